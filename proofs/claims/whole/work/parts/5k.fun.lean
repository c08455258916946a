def f233_81 (F : Nat) (k15 : Int32 → Int32 → Int32 → Int32 → Int32 → Int32 → Int32 → St → Rs) (y1 : Int32) (y2 : Int32) (y3 : Int32) (y5 : Int32) (y6 : Int32) (y7 : Int32) (z0 : Int32) (z1 : Int32) (σ : St) : Rs := lt (z0 ||| z1) fun c6 => f233_84 F k15 y1 y2 y3 c6 y5 y6 y7 σ
theorem s233_81 {sc : aSc} (hv : vOk sc) (F : Nat) (k15 : Int32 → Int32 → Int32 → Int32 → Int32 → Int32 → Int32 → St → Rs) (hk15 : ∀ y1 y2 y3 y4 y5 y6 y7 σ, bEx sc 9 233 15 [some (.ref 1315), some (.int y1), some (.int y2), some (.int y3), some (.int y4), some (.int y5), some (.int y6), some (.int y7), none] [] σ (k15 y1 y2 y3 y4 y5 y6 y7 σ)) (y1 : Int32) (y2 : Int32) (y3 : Int32) (y5 : Int32) (y6 : Int32) (y7 : Int32) (z0 : Int32) (z1 : Int32) (σ : St) : bEx sc 9 233 81 [some (.ref 1315), some (.int y1), some (.int y2), some (.int y3), none, some (.int y5), some (.int y6), some (.int y7), none] [.int z1, .int z0] σ (f233_81 F k15 y1 y2 y3 y5 y6 y7 z0 z1 σ) := by
  unfold f233_81
  refine b_run [(81, .ior, 0, 0, .null), (82, .istore 4, 0, 0, .null)] (pc' := 84) (ls' := [some (.ref 1315), some (.int y1), some (.int y2), some (.int y3), some (.int (z0 ||| z1)), some (.int y5), some (.int y6), some (.int y7), none]) (st' := []) (by decide +kernel) rfl ?_
  refine b_let (z0 ||| z1) (L := fun c6 => [some (.ref 1315), some (.int y1), some (.int y2), some (.int y3), some (.int c6), some (.int y5), some (.int y6), some (.int y7), none]) (S := fun _ => []) (fun c6 => ?_)
  exact b_wk (wS (wS (wS (wS (wS (wS (wS (wS (wN w0))))))))) (s233_84 hv F k15 hk15 y1 y2 y3 c6 y5 y6 y7 σ)
def f233_42 (F : Nat) (k15 : Int32 → Int32 → Int32 → Int32 → Int32 → Int32 → Int32 → St → Rs) (y1 : Int32) (y2 : Int32) (y3 : Int32) (y4 : Int32) (y5 : Int32) (y6 : Int32) (y7 : Int32) (z0 : Int32) (σ : St) : Rs := if (y1 >>> (z0 &&& 31)) &&& 1 = 1 then 
    cI (f235 F y2 z0 (y6 + 1) y5 σ) fun c5 σ4 => 
    if c5 = 0 then f233_81 F k15 y1 y2 y3 y5 (y6 + 1) y7 y4 0 σ4
    else f233_81 F k15 y1 y2 y3 y5 (y6 + 1) y7 y4 (1 <<< (z0 &&& 31)) σ4
    else f233_84 F k15 y1 y2 y3 y4 y5 y6 y7 σ
theorem s233_42 {sc : aSc} (hv : vOk sc) (F : Nat) (k15 : Int32 → Int32 → Int32 → Int32 → Int32 → Int32 → Int32 → St → Rs) (hk15 : ∀ y1 y2 y3 y4 y5 y6 y7 σ, bEx sc 9 233 15 [some (.ref 1315), some (.int y1), some (.int y2), some (.int y3), some (.int y4), some (.int y5), some (.int y6), some (.int y7), none] [] σ (k15 y1 y2 y3 y4 y5 y6 y7 σ)) (y1 : Int32) (y2 : Int32) (y3 : Int32) (y4 : Int32) (y5 : Int32) (y6 : Int32) (y7 : Int32) (z0 : Int32) (σ : St) : bEx sc 9 233 42 [some (.ref 1315), some (.int y1), some (.int y2), some (.int y3), some (.int y4), some (.int y5), some (.int y6), some (.int y7), none] [.int z0] σ (f233_42 F k15 y1 y2 y3 y4 y5 y6 y7 z0 σ) := by
  unfold f233_42
  refine b_run [(42, .istore 8, 0, 0, .null), (44, .iload_n 1, 0, 0, .null), (45, .iload 8, 0, 0, .null), (47, .ishr, 0, 0, .null), (48, .iconst 1, 0, 0, .null), (49, .iand, 0, 0, .null), (50, .iconst 1, 0, 0, .null)] (pc' := 51) (ls' := [some (.ref 1315), some (.int y1), some (.int y2), some (.int y3), some (.int y4), some (.int y5), some (.int y6), some (.int y7), some (.int z0)]) (st' := [.int 1, .int ((y1 >>> (z0 &&& 31)) &&& 1)]) (by decide +kernel) rfl ?_
  refine b_icF (c := .ne) (o := 33) (t := 84) (y := 0) (w := .null) (by decide +kernel) cmp_ne (fun _ => ?_) (fun _ => ?_)
  · refine b_run [(54, .iinc 6 1, 0, 0, .null), (57, .iload 4, 0, 0, .null), (59, .aload_n 0, 0, 0, .null), (60, .iload_n 2, 0, 0, .null), (61, .iload 8, 0, 0, .null), (63, .iload 6, 0, 0, .null), (65, .iload 5, 0, 0, .null)] (pc' := 67) (ls' := [some (.ref 1315), some (.int y1), some (.int y2), some (.int y3), some (.int y4), some (.int y5), some (.int (y6 + 1)), some (.int y7), some (.int z0)]) (st' := [.int y5, .int (y6 + 1), .int z0, .int y2, .ref 1315, .int y4]) (by decide +kernel) rfl ?_
    refine b_callI 235 5 [.ref 1315, .int y2, .int z0, .int (y6 + 1), .int y5] (rest := [.int y4]) (by decide +kernel) rfl rfl rfl (go_O rfl (by decide +kernel) (by decide +kernel : isO 1315 9 = true)) rfl (s235 hv F y2 z0 (y6 + 1) y5 σ) (by decide) (fun c5 σ4 => ?_)
    refine b_izT (c := .eq) (o := 10) (t := 80) (y := 0) (w := .null) (by decide +kernel) cmp_eq (fun _ => ?_) (fun _ => ?_)
    · refine b_run [(80, .iconst 0, 0, 0, .null)] (pc' := 81) (ls' := [some (.ref 1315), some (.int y1), some (.int y2), some (.int y3), some (.int y4), some (.int y5), some (.int (y6 + 1)), some (.int y7), some (.int z0)]) (st' := [.int 0, .int y4]) (by decide +kernel) rfl ?_
      exact b_wk (wS (wS (wS (wS (wN (wS (wS (wS (wN w0))))))))) (s233_81 hv F k15 hk15 y1 y2 y3 y5 (y6 + 1) y7 y4 0 σ4)
    · refine b_run [(73, .iconst 1, 0, 0, .null), (74, .iload 8, 0, 0, .null), (76, .ishl, 0, 0, .null), (77, .goto 4, 81, 0, .null)] (pc' := 81) (ls' := [some (.ref 1315), some (.int y1), some (.int y2), some (.int y3), some (.int y4), some (.int y5), some (.int (y6 + 1)), some (.int y7), some (.int z0)]) (st' := [.int (1 <<< (z0 &&& 31)), .int y4]) (by decide +kernel) rfl ?_
      exact b_wk (wS (wS (wS (wS (wN (wS (wS (wS (wN w0))))))))) (s233_81 hv F k15 hk15 y1 y2 y3 y5 (y6 + 1) y7 y4 (1 <<< (z0 &&& 31)) σ4)
  · exact b_wk (wS (wS (wS (wS (wS (wS (wS (wS (wN w0))))))))) (s233_84 hv F k15 hk15 y1 y2 y3 y4 y5 y6 y7 σ)
def f233_15 (F : Nat) : Nat → Int32 → Int32 → Int32 → Int32 → Int32 → Int32 → Int32 → St → Rs
  | 0, _, _, _, _, _, _, _, _ => none
  | n + 1, y1, y2, y3, y4, y5, y6, y7, σ => lt (σ.1 1315 3) fun c3 => 
    if y7 < c3 then 
    if y3 = 0 then f233_42 F (f233_15 F n) y1 y2 y3 y4 y5 y6 y7 y7 σ
    else lt (σ.1 1315 3) fun c7 => f233_42 F (f233_15 F n) y1 y2 y3 y4 y5 y6 y7 ((c7 - 1) - y7) σ
    else oI y4 σ
theorem s233_15 {sc : aSc} (hv : vOk sc) (F : Nat) : ∀ (n : Nat) (y1 : Int32) (y2 : Int32) (y3 : Int32) (y4 : Int32) (y5 : Int32) (y6 : Int32) (y7 : Int32) (σ : St), bEx sc 9 233 15 [some (.ref 1315), some (.int y1), some (.int y2), some (.int y3), some (.int y4), some (.int y5), some (.int y6), some (.int y7), none] [] σ (f233_15 F n y1 y2 y3 y4 y5 y6 y7 σ) := by
  intro n
  induction n with
  | zero => intro y1 y2 y3 y4 y5 y6 y7 σ; exact b_none
  | succ n ih =>
    intro y1 y2 y3 y4 y5 y6 y7 σ
    rw [f233_15.eq_2]
    refine b_run [(15, .iload 7, 0, 0, .null), (17, .aload_n 0, 0, 0, .null)] (pc' := 18) (ls' := [some (.ref 1315), some (.int y1), some (.int y2), some (.int y3), some (.int y4), some (.int y5), some (.int y6), some (.int y7), none]) (st' := [.ref 1315, .int y7]) (by decide +kernel) rfl ?_
    refine b_gI (q := 148) (ci := 9) (k := 3) (w := .null) (by decide +kernel) (by decide +kernel) (fun c3 => ?_)
    refine b_icF (c := .ge) (o := 69) (t := 90) (y := 0) (w := .null) (by decide +kernel) cmp_ge (fun _ => ?_) (fun _ => ?_)
    · refine b_run [(24, .iload_n 3, 0, 0, .null)] (pc' := 25) (ls' := [some (.ref 1315), some (.int y1), some (.int y2), some (.int y3), some (.int y4), some (.int y5), some (.int y6), some (.int y7), none]) (st' := [.int y3]) (by decide +kernel) rfl ?_
      refine b_izT (c := .eq) (o := 15) (t := 40) (y := 0) (w := .null) (by decide +kernel) cmp_eq (fun _ => ?_) (fun _ => ?_)
      · refine b_run [(40, .iload 7, 0, 0, .null)] (pc' := 42) (ls' := [some (.ref 1315), some (.int y1), some (.int y2), some (.int y3), some (.int y4), some (.int y5), some (.int y6), some (.int y7), none]) (st' := [.int y7]) (by decide +kernel) rfl ?_
        exact b_wk (wS (wS (wS (wS (wS (wS (wS (wS (wN w0))))))))) (s233_42 hv F (f233_15 F n) ih y1 y2 y3 y4 y5 y6 y7 y7 σ)
      · refine b_run [(28, .aload_n 0, 0, 0, .null)] (pc' := 29) (ls' := [some (.ref 1315), some (.int y1), some (.int y2), some (.int y3), some (.int y4), some (.int y5), some (.int y6), some (.int y7), none]) (st' := [.ref 1315]) (by decide +kernel) rfl ?_
        refine b_gI (q := 148) (ci := 9) (k := 3) (w := .null) (by decide +kernel) (by decide +kernel) (fun c7 => ?_)
        refine b_run [(32, .iconst 1, 0, 0, .null), (33, .isub, 0, 0, .null), (34, .iload 7, 0, 0, .null), (36, .isub, 0, 0, .null), (37, .goto 5, 42, 0, .null)] (pc' := 42) (ls' := [some (.ref 1315), some (.int y1), some (.int y2), some (.int y3), some (.int y4), some (.int y5), some (.int y6), some (.int y7), none]) (st' := [.int ((c7 - 1) - y7)]) (by decide +kernel) rfl ?_
        exact b_wk (wS (wS (wS (wS (wS (wS (wS (wS (wN w0))))))))) (s233_42 hv F (f233_15 F n) ih y1 y2 y3 y4 y5 y6 y7 ((c7 - 1) - y7) σ)
    · refine b_run [(90, .iload 4, 0, 0, .null)] (pc' := 92) (ls' := [some (.ref 1315), some (.int y1), some (.int y2), some (.int y3), some (.int y4), some (.int y5), some (.int y6), some (.int y7), none]) (st' := [.int y4]) (by decide +kernel) rfl ?_
      exact b_ret (i := (.ireturn, 0, 0, .null)) (by decide +kernel) rfl rfl (fit_I _)
/-- TreeStoreModel.filtered(IIZ)I -/
def f233 (F : Nat) (x1 : Int32) (x2 : Int32) (x3 : Int32) (σ : St) : Rs := cI (f234 F x1 σ) fun c2 σ1 => f233_15 F F x1 x2 x3 0 c2 0 0 σ1
theorem s233 {sc : aSc} (hv : vOk sc) (F : Nat) (x1 : Int32) (x2 : Int32) (x3 : Int32) (σ : St) : bEx sc 9 233 0 [some (.ref 1315), some (.int x1), some (.int x2), some (.int x3), none, none, none, none, none] [] σ (f233 F x1 x2 x3 σ) := by
  unfold f233
  refine b_run [(0, .iconst 0, 0, 0, .null), (1, .istore 4, 0, 0, .null), (3, .iload_n 1, 0, 0, .null)] (pc' := 4) (ls' := [some (.ref 1315), some (.int x1), some (.int x2), some (.int x3), some (.int 0), none, none, none, none]) (st' := [.int x1]) (by decide +kernel) rfl ?_
  refine b_callI 234 1 [.int x1] (rest := []) (by decide +kernel) rfl rfl rfl (go_S rfl (by decide +kernel)) rfl (s234 hv F x1 σ) (by decide) (fun c2 σ1 => ?_)
  refine b_run [(7, .istore 5, 0, 0, .null), (9, .iconst 0, 0, 0, .null), (10, .istore 6, 0, 0, .null), (12, .iconst 0, 0, 0, .null), (13, .istore 7, 0, 0, .null)] (pc' := 15) (ls' := [some (.ref 1315), some (.int x1), some (.int x2), some (.int x3), some (.int 0), some (.int c2), some (.int 0), some (.int 0), none]) (st' := []) (by decide +kernel) rfl ?_
  exact b_wk (wS (wS (wS (wS (wS (wS (wS (wS (wN w0))))))))) (s233_15 hv F F x1 x2 x3 0 c2 0 0 σ1)
/-- TreeStoreModel.isAncestor(II)Z -/
def f229 (F : Nat) (x1 : Int32) (x2 : Int32) (σ : St) : Rs := if x1 < x2 then 
    cI (f185 F x1 σ) fun c2 σ1 => 
    if x1 + c2 < x2 then oI 0 σ1
    else oI 1 σ1
    else oI 0 σ
theorem s229 {sc : aSc} (hv : vOk sc) (F : Nat) (x1 : Int32) (x2 : Int32) (σ : St) : bEx sc 1 229 0 [some (.ref 1315), some (.int x1), some (.int x2)] [] σ (f229 F x1 x2 σ) := by
  unfold f229
  refine b_run [(0, .iload_n 1, 0, 0, .null), (1, .iload_n 2, 0, 0, .null)] (pc' := 2) (ls' := [some (.ref 1315), some (.int x1), some (.int x2)]) (st' := [.int x2, .int x1]) (by decide +kernel) rfl ?_
  refine b_icF (c := .ge) (o := 18) (t := 20) (y := 0) (w := .null) (by decide +kernel) cmp_ge (fun _ => ?_) (fun _ => ?_)
  · refine b_run [(5, .iload_n 2, 0, 0, .null), (6, .iload_n 1, 0, 0, .null), (7, .aload_n 0, 0, 0, .null), (8, .iload_n 1, 0, 0, .null)] (pc' := 9) (ls' := [some (.ref 1315), some (.int x1), some (.int x2)]) (st' := [.int x1, .ref 1315, .int x1, .int x2]) (by decide +kernel) rfl ?_
    refine b_callI 185 2 [.ref 1315, .int x1] (rest := [.int x1, .int x2]) (by decide +kernel) rfl rfl rfl (go_O rfl (by decide +kernel) (by decide +kernel : isO 1315 9 = true)) rfl (s185 hv F x1 σ) (by decide) (fun c2 σ1 => ?_)
    refine b_run [(12, .iadd, 0, 0, .null)] (pc' := 13) (ls' := [some (.ref 1315), some (.int x1), some (.int x2)]) (st' := [.int (x1 + c2), .int x2]) (by decide +kernel) rfl ?_
    refine b_icT (c := .gt) (o := 7) (t := 20) (y := 0) (w := .null) (by decide +kernel) cmp_gt (fun _ => ?_) (fun _ => ?_)
    · refine b_run [(20, .iconst 0, 0, 0, .null)] (pc' := 21) (ls' := [some (.ref 1315), some (.int x1), some (.int x2)]) (st' := [.int 0]) (by decide +kernel) rfl ?_
      exact b_ret (i := (.ireturn, 0, 0, .null)) (by decide +kernel) rfl rfl (by decide +kernel)
    · refine b_run [(16, .iconst 1, 0, 0, .null), (17, .goto 4, 21, 0, .null)] (pc' := 21) (ls' := [some (.ref 1315), some (.int x1), some (.int x2)]) (st' := [.int 1]) (by decide +kernel) rfl ?_
      exact b_ret (i := (.ireturn, 0, 0, .null)) (by decide +kernel) rfl rfl (by decide +kernel)
  · refine b_run [(20, .iconst 0, 0, 0, .null)] (pc' := 21) (ls' := [some (.ref 1315), some (.int x1), some (.int x2)]) (st' := [.int 0]) (by decide +kernel) rfl ?_
    exact b_ret (i := (.ireturn, 0, 0, .null)) (by decide +kernel) rfl rfl (by decide +kernel)
/-- TreeStoreModel.isSibling(II)Z -/
def f230 (F : Nat) (x1 : Int32) (x2 : Int32) (σ : St) : Rs := if x1 = x2 then oI 0 σ
    else if inB x1 31 then lt (σ.1 1317 x1.toNatClampNeg) fun c1 => 
    if c1 = 2 then oI 0 σ
    else if inB x1 31 then lt (σ.1 1317 x1.toNatClampNeg) fun c2 => 
    if c2 = 0 then oI 0 σ
    else if inB x2 31 then lt (σ.1 1317 x2.toNatClampNeg) fun c3 => 
    if c3 = 2 then oI 0 σ
    else if inB x2 31 then lt (σ.1 1317 x2.toNatClampNeg) fun c4 => 
    if c4 = 0 then oI 0 σ
    else cI (f183 F x1 σ) fun c6 σ5 => 
    cI (f183 F x2 σ5) fun c8 σ7 => 
    if c6 = c8 then oI 1 σ7
    else oI 0 σ7 else none else none else none else none
theorem s230 {sc : aSc} (hv : vOk sc) (F : Nat) (x1 : Int32) (x2 : Int32) (σ : St) : bEx sc 1 230 0 [some (.ref 1315), some (.int x1), some (.int x2)] [] σ (f230 F x1 x2 σ) := by
  unfold f230
  refine b_run [(0, .iload_n 1, 0, 0, .null), (1, .iload_n 2, 0, 0, .null)] (pc' := 2) (ls' := [some (.ref 1315), some (.int x1), some (.int x2)]) (st' := [.int x2, .int x1]) (by decide +kernel) rfl ?_
  refine b_icT (c := .eq) (o := 58) (t := 60) (y := 0) (w := .null) (by decide +kernel) cmp_eq (fun _ => ?_) (fun _ => ?_)
  · refine b_run [(60, .iconst 0, 0, 0, .null)] (pc' := 61) (ls' := [some (.ref 1315), some (.int x1), some (.int x2)]) (st' := [.int 0]) (by decide +kernel) rfl ?_
    exact b_ret (i := (.ireturn, 0, 0, .null)) (by decide +kernel) rfl rfl (by decide +kernel)
  · refine b_run [(5, .aload_n 0, 0, 0, .null)] (pc' := 6) (ls' := [some (.ref 1315), some (.int x1), some (.int x2)]) (st' := [.ref 1315]) (by decide +kernel) rfl ?_
    refine b_getC (b := 1317) (q := 13) (ci := 9) (k := 4) (w := .null) (by decide +kernel) (by decide +kernel) ?_
    refine b_run [(9, .iload_n 1, 0, 0, .null)] (pc' := 10) (ls' := [some (.ref 1315), some (.int x1), some (.int x2)]) (st' := [.int x1, .ref 1317]) (by decide +kernel) rfl ?_
    refine b_guard (fun hb => ?_)
    refine b_aI (ci := 0) (y := 0) (w := .null) (by decide +kernel) (by decide +kernel) hb (fun c1 => ?_)
    refine b_run [(11, .iconst 2, 0, 0, .null)] (pc' := 12) (ls' := [some (.ref 1315), some (.int x1), some (.int x2)]) (st' := [.int 2, .int c1]) (by decide +kernel) rfl ?_
    refine b_icT (c := .eq) (o := 48) (t := 60) (y := 0) (w := .null) (by decide +kernel) cmp_eq (fun _ => ?_) (fun _ => ?_)
    · refine b_run [(60, .iconst 0, 0, 0, .null)] (pc' := 61) (ls' := [some (.ref 1315), some (.int x1), some (.int x2)]) (st' := [.int 0]) (by decide +kernel) rfl ?_
      exact b_ret (i := (.ireturn, 0, 0, .null)) (by decide +kernel) rfl rfl (by decide +kernel)
    · refine b_run [(15, .aload_n 0, 0, 0, .null)] (pc' := 16) (ls' := [some (.ref 1315), some (.int x1), some (.int x2)]) (st' := [.ref 1315]) (by decide +kernel) rfl ?_
      refine b_getC (b := 1317) (q := 13) (ci := 9) (k := 4) (w := .null) (by decide +kernel) (by decide +kernel) ?_
      refine b_run [(19, .iload_n 1, 0, 0, .null)] (pc' := 20) (ls' := [some (.ref 1315), some (.int x1), some (.int x2)]) (st' := [.int x1, .ref 1317]) (by decide +kernel) rfl ?_
      refine b_guard (fun hb => ?_)
      refine b_aI (ci := 0) (y := 0) (w := .null) (by decide +kernel) (by decide +kernel) hb (fun c2 => ?_)
      refine b_izT (c := .eq) (o := 39) (t := 60) (y := 0) (w := .null) (by decide +kernel) cmp_eq (fun _ => ?_) (fun _ => ?_)
      · refine b_run [(60, .iconst 0, 0, 0, .null)] (pc' := 61) (ls' := [some (.ref 1315), some (.int x1), some (.int x2)]) (st' := [.int 0]) (by decide +kernel) rfl ?_
        exact b_ret (i := (.ireturn, 0, 0, .null)) (by decide +kernel) rfl rfl (by decide +kernel)
      · refine b_run [(24, .aload_n 0, 0, 0, .null)] (pc' := 25) (ls' := [some (.ref 1315), some (.int x1), some (.int x2)]) (st' := [.ref 1315]) (by decide +kernel) rfl ?_
        refine b_getC (b := 1317) (q := 13) (ci := 9) (k := 4) (w := .null) (by decide +kernel) (by decide +kernel) ?_
        refine b_run [(28, .iload_n 2, 0, 0, .null)] (pc' := 29) (ls' := [some (.ref 1315), some (.int x1), some (.int x2)]) (st' := [.int x2, .ref 1317]) (by decide +kernel) rfl ?_
        refine b_guard (fun hb => ?_)
        refine b_aI (ci := 0) (y := 0) (w := .null) (by decide +kernel) (by decide +kernel) hb (fun c3 => ?_)
        refine b_run [(30, .iconst 2, 0, 0, .null)] (pc' := 31) (ls' := [some (.ref 1315), some (.int x1), some (.int x2)]) (st' := [.int 2, .int c3]) (by decide +kernel) rfl ?_
        refine b_icT (c := .eq) (o := 29) (t := 60) (y := 0) (w := .null) (by decide +kernel) cmp_eq (fun _ => ?_) (fun _ => ?_)
        · refine b_run [(60, .iconst 0, 0, 0, .null)] (pc' := 61) (ls' := [some (.ref 1315), some (.int x1), some (.int x2)]) (st' := [.int 0]) (by decide +kernel) rfl ?_
          exact b_ret (i := (.ireturn, 0, 0, .null)) (by decide +kernel) rfl rfl (by decide +kernel)
        · refine b_run [(34, .aload_n 0, 0, 0, .null)] (pc' := 35) (ls' := [some (.ref 1315), some (.int x1), some (.int x2)]) (st' := [.ref 1315]) (by decide +kernel) rfl ?_
          refine b_getC (b := 1317) (q := 13) (ci := 9) (k := 4) (w := .null) (by decide +kernel) (by decide +kernel) ?_
          refine b_run [(38, .iload_n 2, 0, 0, .null)] (pc' := 39) (ls' := [some (.ref 1315), some (.int x1), some (.int x2)]) (st' := [.int x2, .ref 1317]) (by decide +kernel) rfl ?_
          refine b_guard (fun hb => ?_)
          refine b_aI (ci := 0) (y := 0) (w := .null) (by decide +kernel) (by decide +kernel) hb (fun c4 => ?_)
          refine b_izT (c := .eq) (o := 20) (t := 60) (y := 0) (w := .null) (by decide +kernel) cmp_eq (fun _ => ?_) (fun _ => ?_)
          · refine b_run [(60, .iconst 0, 0, 0, .null)] (pc' := 61) (ls' := [some (.ref 1315), some (.int x1), some (.int x2)]) (st' := [.int 0]) (by decide +kernel) rfl ?_
            exact b_ret (i := (.ireturn, 0, 0, .null)) (by decide +kernel) rfl rfl (by decide +kernel)
          · refine b_run [(43, .aload_n 0, 0, 0, .null), (44, .iload_n 1, 0, 0, .null)] (pc' := 45) (ls' := [some (.ref 1315), some (.int x1), some (.int x2)]) (st' := [.int x1, .ref 1315]) (by decide +kernel) rfl ?_
            refine b_callI 183 2 [.ref 1315, .int x1] (rest := []) (by decide +kernel) rfl rfl rfl (go_O rfl (by decide +kernel) (by decide +kernel : isO 1315 9 = true)) rfl (s183 hv F x1 σ) (by decide) (fun c6 σ5 => ?_)
            refine b_run [(48, .aload_n 0, 0, 0, .null), (49, .iload_n 2, 0, 0, .null)] (pc' := 50) (ls' := [some (.ref 1315), some (.int x1), some (.int x2)]) (st' := [.int x2, .ref 1315, .int c6]) (by decide +kernel) rfl ?_
            refine b_callI 183 2 [.ref 1315, .int x2] (rest := [.int c6]) (by decide +kernel) rfl rfl rfl (go_O rfl (by decide +kernel) (by decide +kernel : isO 1315 9 = true)) rfl (s183 hv F x2 σ5) (by decide) (fun c8 σ7 => ?_)
            refine b_icF (c := .ne) (o := 7) (t := 60) (y := 0) (w := .null) (by decide +kernel) cmp_ne (fun _ => ?_) (fun _ => ?_)
            · refine b_run [(56, .iconst 1, 0, 0, .null), (57, .goto 4, 61, 0, .null)] (pc' := 61) (ls' := [some (.ref 1315), some (.int x1), some (.int x2)]) (st' := [.int 1]) (by decide +kernel) rfl ?_
              exact b_ret (i := (.ireturn, 0, 0, .null)) (by decide +kernel) rfl rfl (by decide +kernel)
            · refine b_run [(60, .iconst 0, 0, 0, .null)] (pc' := 61) (ls' := [some (.ref 1315), some (.int x1), some (.int x2)]) (st' := [.int 0]) (by decide +kernel) rfl ?_
              exact b_ret (i := (.ireturn, 0, 0, .null)) (by decide +kernel) rfl rfl (by decide +kernel)
def f228_15 (F : Nat) (y1 : Int32) (y2 : Int32) (y3 : Int32) (z0 : Int32) (σ : St) : Rs := if y1 = 0 then 
    if z0 = 0 then 
    cI (f183 F y3 σ) fun c3 σ2 => 
    if c3 = y2 then oI 1 σ2
    else oI 0 σ2
    else oI 0 σ
    else if y1 = 1 then 
    if z0 = 0 then 
    cI (f229 F y2 y3 σ) fun c5 σ4 => 
    if c5 = 0 then oI 0 σ4
    else oI 1 σ4
    else oI 0 σ
    else if y1 = 2 then 
    cI (f183 F y2 σ) fun c7 σ6 => 
    if c7 = y3 then oI 1 σ6
    else oI 0 σ6
    else if y1 = 3 then cI (f229 F y3 y2 σ) fun c9 σ8 => if c9 = 0 ∨ c9 = 1 then oI c9 σ8 else none
    else if y1 = 4 then 
    if y2 = y3 then oI 1 σ
    else oI 0 σ
    else if y1 = 5 then 
    if z0 = 0 then oI 0 σ
    else cI (f183 F y3 σ) fun c11 σ10 => 
    if c11 = y2 then oI 1 σ10
    else oI 0 σ10
    else if y1 = 6 then 
    cI (f230 F y2 y3 σ) fun c13 σ12 => 
    if c13 = 0 then oI 0 σ12
    else if y2 < y3 then oI 1 σ12
    else oI 0 σ12
    else if y1 = 7 then 
    cI (f230 F y2 y3 σ) fun c15 σ14 => 
    if c15 = 0 then oI 0 σ14
    else if y3 < y2 then oI 1 σ14
    else oI 0 σ14
    else if y1 = 8 then 
    if z0 = 0 then 
    cI (f185 F y2 σ) fun c17 σ16 => 
    if y2 + c17 < y3 then oI 1 σ16
    else oI 0 σ16
    else oI 0 σ
    else if y1 = 9 then 
    if z0 = 0 then 
    if y3 < y2 then 
    cI (f229 F y3 y2 σ) fun c19 σ18 => 
    if c19 = 0 then oI 1 σ18
    else oI 0 σ18
    else oI 0 σ
    else oI 0 σ
    else if y1 = 10 then 
    if y2 = y3 then oI 1 σ
    else if z0 = 0 then 
    cI (f229 F y2 y3 σ) fun c21 σ20 => 
    if c21 = 0 then oI 0 σ20
    else oI 1 σ20
    else oI 0 σ
    else if y2 = y3 then oI 1 σ
    else cI (f229 F y3 y2 σ) fun c23 σ22 => 
    if c23 = 0 then oI 0 σ22
    else oI 1 σ22
theorem s228_15 {sc : aSc} (hv : vOk sc) (F : Nat) (y1 : Int32) (y2 : Int32) (y3 : Int32) (z0 : Int32) (σ : St) : bEx sc 2 228 15 [some (.ref 1315), some (.int y1), some (.int y2), some (.int y3), none] [.int z0] σ (f228_15 F y1 y2 y3 z0 σ) := by
  unfold f228_15
  refine b_run [(15, .istore 4, 0, 0, .null), (17, .iload_n 1, 0, 0, .null)] (pc' := 18) (ls' := [some (.ref 1315), some (.int y1), some (.int y2), some (.int y3), some (.int z0)]) (st' := [.int y1]) (by decide +kernel) rfl ?_
  refine b_ite (fun e0 => ?_) (fun e0 => ?_)
  · refine b_sw (dl := 263) (lo := 0) (hi' := 10) (offs := #[58, 78, 98, 113, 120, 131, 151, 171, 191, 213, 238]) (t := 58) (y := 0) (w := .null) (by decide +kernel) (swE e0 (by decide +kernel : aSw 18 263 0 10 #[58, 78, 98, 113, 120, 131, 151, 171, 191, 213, 238] 0 = some 76)) ?_
    refine b_run [(76, .iload 4, 0, 0, .null)] (pc' := 78) (ls' := [some (.ref 1315), some (.int y1), some (.int y2), some (.int y3), some (.int z0)]) (st' := [.int z0]) (by decide +kernel) rfl ?_
    refine b_izF (c := .ne) (o := 16) (t := 94) (y := 0) (w := .null) (by decide +kernel) cmp_ne (fun _ => ?_) (fun _ => ?_)
    · refine b_run [(81, .aload_n 0, 0, 0, .null), (82, .iload_n 3, 0, 0, .null)] (pc' := 83) (ls' := [some (.ref 1315), some (.int y1), some (.int y2), some (.int y3), some (.int z0)]) (st' := [.int y3, .ref 1315]) (by decide +kernel) rfl ?_
      refine b_callI 183 2 [.ref 1315, .int y3] (rest := []) (by decide +kernel) rfl rfl rfl (go_O rfl (by decide +kernel) (by decide +kernel : isO 1315 9 = true)) rfl (s183 hv F y3 σ) (by decide) (fun c3 σ2 => ?_)
      refine b_run [(86, .iload_n 2, 0, 0, .null)] (pc' := 87) (ls' := [some (.ref 1315), some (.int y1), some (.int y2), some (.int y3), some (.int z0)]) (st' := [.int y2, .int c3]) (by decide +kernel) rfl ?_
      refine b_icF (c := .ne) (o := 7) (t := 94) (y := 0) (w := .null) (by decide +kernel) cmp_ne (fun _ => ?_) (fun _ => ?_)
      · refine b_run [(90, .iconst 1, 0, 0, .null), (91, .goto 4, 95, 0, .null)] (pc' := 95) (ls' := [some (.ref 1315), some (.int y1), some (.int y2), some (.int y3), some (.int z0)]) (st' := [.int 1]) (by decide +kernel) rfl ?_
        exact b_ret (i := (.ireturn, 0, 0, .null)) (by decide +kernel) rfl rfl (by decide +kernel)
      · refine b_run [(94, .iconst 0, 0, 0, .null)] (pc' := 95) (ls' := [some (.ref 1315), some (.int y1), some (.int y2), some (.int y3), some (.int z0)]) (st' := [.int 0]) (by decide +kernel) rfl ?_
        exact b_ret (i := (.ireturn, 0, 0, .null)) (by decide +kernel) rfl rfl (by decide +kernel)
    · refine b_run [(94, .iconst 0, 0, 0, .null)] (pc' := 95) (ls' := [some (.ref 1315), some (.int y1), some (.int y2), some (.int y3), some (.int z0)]) (st' := [.int 0]) (by decide +kernel) rfl ?_
      exact b_ret (i := (.ireturn, 0, 0, .null)) (by decide +kernel) rfl rfl (by decide +kernel)
  refine b_ite (fun e1 => ?_) (fun e1 => ?_)
  · refine b_sw (dl := 263) (lo := 0) (hi' := 10) (offs := #[58, 78, 98, 113, 120, 131, 151, 171, 191, 213, 238]) (t := 58) (y := 0) (w := .null) (by decide +kernel) (swE e1 (by decide +kernel : aSw 18 263 0 10 #[58, 78, 98, 113, 120, 131, 151, 171, 191, 213, 238] 1 = some 96)) ?_
    refine b_run [(96, .iload 4, 0, 0, .null)] (pc' := 98) (ls' := [some (.ref 1315), some (.int y1), some (.int y2), some (.int y3), some (.int z0)]) (st' := [.int z0]) (by decide +kernel) rfl ?_
    refine b_izF (c := .ne) (o := 16) (t := 114) (y := 0) (w := .null) (by decide +kernel) cmp_ne (fun _ => ?_) (fun _ => ?_)
    · refine b_run [(101, .aload_n 0, 0, 0, .null), (102, .iload_n 2, 0, 0, .null), (103, .iload_n 3, 0, 0, .null)] (pc' := 104) (ls' := [some (.ref 1315), some (.int y1), some (.int y2), some (.int y3), some (.int z0)]) (st' := [.int y3, .int y2, .ref 1315]) (by decide +kernel) rfl ?_
      refine b_callI 229 3 [.ref 1315, .int y2, .int y3] (rest := []) (by decide +kernel) rfl rfl rfl (go_O rfl (by decide +kernel) (by decide +kernel : isO 1315 9 = true)) rfl (s229 hv F y2 y3 σ) (by decide) (fun c5 σ4 => ?_)
      refine b_izT (c := .eq) (o := 7) (t := 114) (y := 0) (w := .null) (by decide +kernel) cmp_eq (fun _ => ?_) (fun _ => ?_)
      · refine b_run [(114, .iconst 0, 0, 0, .null)] (pc' := 115) (ls' := [some (.ref 1315), some (.int y1), some (.int y2), some (.int y3), some (.int z0)]) (st' := [.int 0]) (by decide +kernel) rfl ?_
        exact b_ret (i := (.ireturn, 0, 0, .null)) (by decide +kernel) rfl rfl (by decide +kernel)
      · refine b_run [(110, .iconst 1, 0, 0, .null), (111, .goto 4, 115, 0, .null)] (pc' := 115) (ls' := [some (.ref 1315), some (.int y1), some (.int y2), some (.int y3), some (.int z0)]) (st' := [.int 1]) (by decide +kernel) rfl ?_
        exact b_ret (i := (.ireturn, 0, 0, .null)) (by decide +kernel) rfl rfl (by decide +kernel)
    · refine b_run [(114, .iconst 0, 0, 0, .null)] (pc' := 115) (ls' := [some (.ref 1315), some (.int y1), some (.int y2), some (.int y3), some (.int z0)]) (st' := [.int 0]) (by decide +kernel) rfl ?_
      exact b_ret (i := (.ireturn, 0, 0, .null)) (by decide +kernel) rfl rfl (by decide +kernel)
  refine b_ite (fun e2 => ?_) (fun e2 => ?_)
  · refine b_sw (dl := 263) (lo := 0) (hi' := 10) (offs := #[58, 78, 98, 113, 120, 131, 151, 171, 191, 213, 238]) (t := 58) (y := 0) (w := .null) (by decide +kernel) (swE e2 (by decide +kernel : aSw 18 263 0 10 #[58, 78, 98, 113, 120, 131, 151, 171, 191, 213, 238] 2 = some 116)) ?_
    refine b_run [(116, .aload_n 0, 0, 0, .null), (117, .iload_n 2, 0, 0, .null)] (pc' := 118) (ls' := [some (.ref 1315), some (.int y1), some (.int y2), some (.int y3), some (.int z0)]) (st' := [.int y2, .ref 1315]) (by decide +kernel) rfl ?_
    refine b_callI 183 2 [.ref 1315, .int y2] (rest := []) (by decide +kernel) rfl rfl rfl (go_O rfl (by decide +kernel) (by decide +kernel : isO 1315 9 = true)) rfl (s183 hv F y2 σ) (by decide) (fun c7 σ6 => ?_)
    refine b_run [(121, .iload_n 3, 0, 0, .null)] (pc' := 122) (ls' := [some (.ref 1315), some (.int y1), some (.int y2), some (.int y3), some (.int z0)]) (st' := [.int y3, .int c7]) (by decide +kernel) rfl ?_
    refine b_icF (c := .ne) (o := 7) (t := 129) (y := 0) (w := .null) (by decide +kernel) cmp_ne (fun _ => ?_) (fun _ => ?_)
    · refine b_run [(125, .iconst 1, 0, 0, .null), (126, .goto 4, 130, 0, .null)] (pc' := 130) (ls' := [some (.ref 1315), some (.int y1), some (.int y2), some (.int y3), some (.int z0)]) (st' := [.int 1]) (by decide +kernel) rfl ?_
      exact b_ret (i := (.ireturn, 0, 0, .null)) (by decide +kernel) rfl rfl (by decide +kernel)
    · refine b_run [(129, .iconst 0, 0, 0, .null)] (pc' := 130) (ls' := [some (.ref 1315), some (.int y1), some (.int y2), some (.int y3), some (.int z0)]) (st' := [.int 0]) (by decide +kernel) rfl ?_
      exact b_ret (i := (.ireturn, 0, 0, .null)) (by decide +kernel) rfl rfl (by decide +kernel)
  refine b_ite (fun e3 => ?_) (fun e3 => ?_)
  · refine b_sw (dl := 263) (lo := 0) (hi' := 10) (offs := #[58, 78, 98, 113, 120, 131, 151, 171, 191, 213, 238]) (t := 58) (y := 0) (w := .null) (by decide +kernel) (swE e3 (by decide +kernel : aSw 18 263 0 10 #[58, 78, 98, 113, 120, 131, 151, 171, 191, 213, 238] 3 = some 131)) ?_
    refine b_run [(131, .aload_n 0, 0, 0, .null), (132, .iload_n 3, 0, 0, .null), (133, .iload_n 2, 0, 0, .null)] (pc' := 134) (ls' := [some (.ref 1315), some (.int y1), some (.int y2), some (.int y3), some (.int z0)]) (st' := [.int y2, .int y3, .ref 1315]) (by decide +kernel) rfl ?_
    refine b_callI 229 3 [.ref 1315, .int y3, .int y2] (rest := []) (by decide +kernel) rfl rfl rfl (go_O rfl (by decide +kernel) (by decide +kernel : isO 1315 9 = true)) rfl (s229 hv F y3 y2 σ) (by decide) (fun c9 σ8 => ?_)
    exact b_guard (fun hz => b_ret (i := (.ireturn, 0, 0, .null)) (by decide +kernel) rfl rfl (fit_Z hz))
  refine b_ite (fun e4 => ?_) (fun e4 => ?_)
  · refine b_sw (dl := 263) (lo := 0) (hi' := 10) (offs := #[58, 78, 98, 113, 120, 131, 151, 171, 191, 213, 238]) (t := 58) (y := 0) (w := .null) (by decide +kernel) (swE e4 (by decide +kernel : aSw 18 263 0 10 #[58, 78, 98, 113, 120, 131, 151, 171, 191, 213, 238] 4 = some 138)) ?_
    refine b_run [(138, .iload_n 2, 0, 0, .null), (139, .iload_n 3, 0, 0, .null)] (pc' := 140) (ls' := [some (.ref 1315), some (.int y1), some (.int y2), some (.int y3), some (.int z0)]) (st' := [.int y3, .int y2]) (by decide +kernel) rfl ?_
    refine b_icF (c := .ne) (o := 7) (t := 147) (y := 0) (w := .null) (by decide +kernel) cmp_ne (fun _ => ?_) (fun _ => ?_)
    · refine b_run [(143, .iconst 1, 0, 0, .null), (144, .goto 4, 148, 0, .null)] (pc' := 148) (ls' := [some (.ref 1315), some (.int y1), some (.int y2), some (.int y3), some (.int z0)]) (st' := [.int 1]) (by decide +kernel) rfl ?_
      exact b_ret (i := (.ireturn, 0, 0, .null)) (by decide +kernel) rfl rfl (by decide +kernel)
    · refine b_run [(147, .iconst 0, 0, 0, .null)] (pc' := 148) (ls' := [some (.ref 1315), some (.int y1), some (.int y2), some (.int y3), some (.int z0)]) (st' := [.int 0]) (by decide +kernel) rfl ?_
      exact b_ret (i := (.ireturn, 0, 0, .null)) (by decide +kernel) rfl rfl (by decide +kernel)
  refine b_ite (fun e5 => ?_) (fun e5 => ?_)
  · refine b_sw (dl := 263) (lo := 0) (hi' := 10) (offs := #[58, 78, 98, 113, 120, 131, 151, 171, 191, 213, 238]) (t := 58) (y := 0) (w := .null) (by decide +kernel) (swE e5 (by decide +kernel : aSw 18 263 0 10 #[58, 78, 98, 113, 120, 131, 151, 171, 191, 213, 238] 5 = some 149)) ?_
    refine b_run [(149, .iload 4, 0, 0, .null)] (pc' := 151) (ls' := [some (.ref 1315), some (.int y1), some (.int y2), some (.int y3), some (.int z0)]) (st' := [.int z0]) (by decide +kernel) rfl ?_
    refine b_izT (c := .eq) (o := 16) (t := 167) (y := 0) (w := .null) (by decide +kernel) cmp_eq (fun _ => ?_) (fun _ => ?_)
    · refine b_run [(167, .iconst 0, 0, 0, .null)] (pc' := 168) (ls' := [some (.ref 1315), some (.int y1), some (.int y2), some (.int y3), some (.int z0)]) (st' := [.int 0]) (by decide +kernel) rfl ?_
      exact b_ret (i := (.ireturn, 0, 0, .null)) (by decide +kernel) rfl rfl (by decide +kernel)
    · refine b_run [(154, .aload_n 0, 0, 0, .null), (155, .iload_n 3, 0, 0, .null)] (pc' := 156) (ls' := [some (.ref 1315), some (.int y1), some (.int y2), some (.int y3), some (.int z0)]) (st' := [.int y3, .ref 1315]) (by decide +kernel) rfl ?_
      refine b_callI 183 2 [.ref 1315, .int y3] (rest := []) (by decide +kernel) rfl rfl rfl (go_O rfl (by decide +kernel) (by decide +kernel : isO 1315 9 = true)) rfl (s183 hv F y3 σ) (by decide) (fun c11 σ10 => ?_)
      refine b_run [(159, .iload_n 2, 0, 0, .null)] (pc' := 160) (ls' := [some (.ref 1315), some (.int y1), some (.int y2), some (.int y3), some (.int z0)]) (st' := [.int y2, .int c11]) (by decide +kernel) rfl ?_
      refine b_icF (c := .ne) (o := 7) (t := 167) (y := 0) (w := .null) (by decide +kernel) cmp_ne (fun _ => ?_) (fun _ => ?_)
      · refine b_run [(163, .iconst 1, 0, 0, .null), (164, .goto 4, 168, 0, .null)] (pc' := 168) (ls' := [some (.ref 1315), some (.int y1), some (.int y2), some (.int y3), some (.int z0)]) (st' := [.int 1]) (by decide +kernel) rfl ?_
        exact b_ret (i := (.ireturn, 0, 0, .null)) (by decide +kernel) rfl rfl (by decide +kernel)
      · refine b_run [(167, .iconst 0, 0, 0, .null)] (pc' := 168) (ls' := [some (.ref 1315), some (.int y1), some (.int y2), some (.int y3), some (.int z0)]) (st' := [.int 0]) (by decide +kernel) rfl ?_
        exact b_ret (i := (.ireturn, 0, 0, .null)) (by decide +kernel) rfl rfl (by decide +kernel)
  refine b_ite (fun e6 => ?_) (fun e6 => ?_)
  · refine b_sw (dl := 263) (lo := 0) (hi' := 10) (offs := #[58, 78, 98, 113, 120, 131, 151, 171, 191, 213, 238]) (t := 58) (y := 0) (w := .null) (by decide +kernel) (swE e6 (by decide +kernel : aSw 18 263 0 10 #[58, 78, 98, 113, 120, 131, 151, 171, 191, 213, 238] 6 = some 169)) ?_
    refine b_run [(169, .aload_n 0, 0, 0, .null), (170, .iload_n 2, 0, 0, .null), (171, .iload_n 3, 0, 0, .null)] (pc' := 172) (ls' := [some (.ref 1315), some (.int y1), some (.int y2), some (.int y3), some (.int z0)]) (st' := [.int y3, .int y2, .ref 1315]) (by decide +kernel) rfl ?_
    refine b_callI 230 3 [.ref 1315, .int y2, .int y3] (rest := []) (by decide +kernel) rfl rfl rfl (go_O rfl (by decide +kernel) (by decide +kernel : isO 1315 9 = true)) rfl (s230 hv F y2 y3 σ) (by decide) (fun c13 σ12 => ?_)
    refine b_izT (c := .eq) (o := 12) (t := 187) (y := 0) (w := .null) (by decide +kernel) cmp_eq (fun _ => ?_) (fun _ => ?_)
    · refine b_run [(187, .iconst 0, 0, 0, .null)] (pc' := 188) (ls' := [some (.ref 1315), some (.int y1), some (.int y2), some (.int y3), some (.int z0)]) (st' := [.int 0]) (by decide +kernel) rfl ?_
      exact b_ret (i := (.ireturn, 0, 0, .null)) (by decide +kernel) rfl rfl (by decide +kernel)
    · refine b_run [(178, .iload_n 3, 0, 0, .null), (179, .iload_n 2, 0, 0, .null)] (pc' := 180) (ls' := [some (.ref 1315), some (.int y1), some (.int y2), some (.int y3), some (.int z0)]) (st' := [.int y2, .int y3]) (by decide +kernel) rfl ?_
      refine b_icF (c := .le) (o := 7) (t := 187) (y := 0) (w := .null) (by decide +kernel) cmp_le (fun _ => ?_) (fun _ => ?_)
      · refine b_run [(183, .iconst 1, 0, 0, .null), (184, .goto 4, 188, 0, .null)] (pc' := 188) (ls' := [some (.ref 1315), some (.int y1), some (.int y2), some (.int y3), some (.int z0)]) (st' := [.int 1]) (by decide +kernel) rfl ?_
        exact b_ret (i := (.ireturn, 0, 0, .null)) (by decide +kernel) rfl rfl (by decide +kernel)
      · refine b_run [(187, .iconst 0, 0, 0, .null)] (pc' := 188) (ls' := [some (.ref 1315), some (.int y1), some (.int y2), some (.int y3), some (.int z0)]) (st' := [.int 0]) (by decide +kernel) rfl ?_
        exact b_ret (i := (.ireturn, 0, 0, .null)) (by decide +kernel) rfl rfl (by decide +kernel)
  refine b_ite (fun e7 => ?_) (fun e7 => ?_)
  · refine b_sw (dl := 263) (lo := 0) (hi' := 10) (offs := #[58, 78, 98, 113, 120, 131, 151, 171, 191, 213, 238]) (t := 58) (y := 0) (w := .null) (by decide +kernel) (swE e7 (by decide +kernel : aSw 18 263 0 10 #[58, 78, 98, 113, 120, 131, 151, 171, 191, 213, 238] 7 = some 189)) ?_
    refine b_run [(189, .aload_n 0, 0, 0, .null), (190, .iload_n 2, 0, 0, .null), (191, .iload_n 3, 0, 0, .null)] (pc' := 192) (ls' := [some (.ref 1315), some (.int y1), some (.int y2), some (.int y3), some (.int z0)]) (st' := [.int y3, .int y2, .ref 1315]) (by decide +kernel) rfl ?_
    refine b_callI 230 3 [.ref 1315, .int y2, .int y3] (rest := []) (by decide +kernel) rfl rfl rfl (go_O rfl (by decide +kernel) (by decide +kernel : isO 1315 9 = true)) rfl (s230 hv F y2 y3 σ) (by decide) (fun c15 σ14 => ?_)
    refine b_izT (c := .eq) (o := 12) (t := 207) (y := 0) (w := .null) (by decide +kernel) cmp_eq (fun _ => ?_) (fun _ => ?_)
    · refine b_run [(207, .iconst 0, 0, 0, .null)] (pc' := 208) (ls' := [some (.ref 1315), some (.int y1), some (.int y2), some (.int y3), some (.int z0)]) (st' := [.int 0]) (by decide +kernel) rfl ?_
      exact b_ret (i := (.ireturn, 0, 0, .null)) (by decide +kernel) rfl rfl (by decide +kernel)
    · refine b_run [(198, .iload_n 3, 0, 0, .null), (199, .iload_n 2, 0, 0, .null)] (pc' := 200) (ls' := [some (.ref 1315), some (.int y1), some (.int y2), some (.int y3), some (.int z0)]) (st' := [.int y2, .int y3]) (by decide +kernel) rfl ?_
      refine b_icF (c := .ge) (o := 7) (t := 207) (y := 0) (w := .null) (by decide +kernel) cmp_ge (fun _ => ?_) (fun _ => ?_)
      · refine b_run [(203, .iconst 1, 0, 0, .null), (204, .goto 4, 208, 0, .null)] (pc' := 208) (ls' := [some (.ref 1315), some (.int y1), some (.int y2), some (.int y3), some (.int z0)]) (st' := [.int 1]) (by decide +kernel) rfl ?_
        exact b_ret (i := (.ireturn, 0, 0, .null)) (by decide +kernel) rfl rfl (by decide +kernel)
      · refine b_run [(207, .iconst 0, 0, 0, .null)] (pc' := 208) (ls' := [some (.ref 1315), some (.int y1), some (.int y2), some (.int y3), some (.int z0)]) (st' := [.int 0]) (by decide +kernel) rfl ?_
        exact b_ret (i := (.ireturn, 0, 0, .null)) (by decide +kernel) rfl rfl (by decide +kernel)
  refine b_ite (fun e8 => ?_) (fun e8 => ?_)
  · refine b_sw (dl := 263) (lo := 0) (hi' := 10) (offs := #[58, 78, 98, 113, 120, 131, 151, 171, 191, 213, 238]) (t := 58) (y := 0) (w := .null) (by decide +kernel) (swE e8 (by decide +kernel : aSw 18 263 0 10 #[58, 78, 98, 113, 120, 131, 151, 171, 191, 213, 238] 8 = some 209)) ?_
    refine b_run [(209, .iload 4, 0, 0, .null)] (pc' := 211) (ls' := [some (.ref 1315), some (.int y1), some (.int y2), some (.int y3), some (.int z0)]) (st' := [.int z0]) (by decide +kernel) rfl ?_
    refine b_izF (c := .ne) (o := 18) (t := 229) (y := 0) (w := .null) (by decide +kernel) cmp_ne (fun _ => ?_) (fun _ => ?_)
    · refine b_run [(214, .iload_n 3, 0, 0, .null), (215, .iload_n 2, 0, 0, .null), (216, .aload_n 0, 0, 0, .null), (217, .iload_n 2, 0, 0, .null)] (pc' := 218) (ls' := [some (.ref 1315), some (.int y1), some (.int y2), some (.int y3), some (.int z0)]) (st' := [.int y2, .ref 1315, .int y2, .int y3]) (by decide +kernel) rfl ?_
      refine b_callI 185 2 [.ref 1315, .int y2] (rest := [.int y2, .int y3]) (by decide +kernel) rfl rfl rfl (go_O rfl (by decide +kernel) (by decide +kernel : isO 1315 9 = true)) rfl (s185 hv F y2 σ) (by decide) (fun c17 σ16 => ?_)
      refine b_run [(221, .iadd, 0, 0, .null)] (pc' := 222) (ls' := [some (.ref 1315), some (.int y1), some (.int y2), some (.int y3), some (.int z0)]) (st' := [.int (y2 + c17), .int y3]) (by decide +kernel) rfl ?_
      refine b_icF (c := .le) (o := 7) (t := 229) (y := 0) (w := .null) (by decide +kernel) cmp_le (fun _ => ?_) (fun _ => ?_)
      · refine b_run [(225, .iconst 1, 0, 0, .null), (226, .goto 4, 230, 0, .null)] (pc' := 230) (ls' := [some (.ref 1315), some (.int y1), some (.int y2), some (.int y3), some (.int z0)]) (st' := [.int 1]) (by decide +kernel) rfl ?_
        exact b_ret (i := (.ireturn, 0, 0, .null)) (by decide +kernel) rfl rfl (by decide +kernel)
      · refine b_run [(229, .iconst 0, 0, 0, .null)] (pc' := 230) (ls' := [some (.ref 1315), some (.int y1), some (.int y2), some (.int y3), some (.int z0)]) (st' := [.int 0]) (by decide +kernel) rfl ?_
        exact b_ret (i := (.ireturn, 0, 0, .null)) (by decide +kernel) rfl rfl (by decide +kernel)
    · refine b_run [(229, .iconst 0, 0, 0, .null)] (pc' := 230) (ls' := [some (.ref 1315), some (.int y1), some (.int y2), some (.int y3), some (.int z0)]) (st' := [.int 0]) (by decide +kernel) rfl ?_
      exact b_ret (i := (.ireturn, 0, 0, .null)) (by decide +kernel) rfl rfl (by decide +kernel)
  refine b_ite (fun e9 => ?_) (fun e9 => ?_)
  · refine b_sw (dl := 263) (lo := 0) (hi' := 10) (offs := #[58, 78, 98, 113, 120, 131, 151, 171, 191, 213, 238]) (t := 58) (y := 0) (w := .null) (by decide +kernel) (swE e9 (by decide +kernel : aSw 18 263 0 10 #[58, 78, 98, 113, 120, 131, 151, 171, 191, 213, 238] 9 = some 231)) ?_
    refine b_run [(231, .iload 4, 0, 0, .null)] (pc' := 233) (ls' := [some (.ref 1315), some (.int y1), some (.int y2), some (.int y3), some (.int z0)]) (st' := [.int z0]) (by decide +kernel) rfl ?_
    refine b_izF (c := .ne) (o := 21) (t := 254) (y := 0) (w := .null) (by decide +kernel) cmp_ne (fun _ => ?_) (fun _ => ?_)
    · refine b_run [(236, .iload_n 3, 0, 0, .null), (237, .iload_n 2, 0, 0, .null)] (pc' := 238) (ls' := [some (.ref 1315), some (.int y1), some (.int y2), some (.int y3), some (.int z0)]) (st' := [.int y2, .int y3]) (by decide +kernel) rfl ?_
      refine b_icF (c := .ge) (o := 16) (t := 254) (y := 0) (w := .null) (by decide +kernel) cmp_ge (fun _ => ?_) (fun _ => ?_)
      · refine b_run [(241, .aload_n 0, 0, 0, .null), (242, .iload_n 3, 0, 0, .null), (243, .iload_n 2, 0, 0, .null)] (pc' := 244) (ls' := [some (.ref 1315), some (.int y1), some (.int y2), some (.int y3), some (.int z0)]) (st' := [.int y2, .int y3, .ref 1315]) (by decide +kernel) rfl ?_
        refine b_callI 229 3 [.ref 1315, .int y3, .int y2] (rest := []) (by decide +kernel) rfl rfl rfl (go_O rfl (by decide +kernel) (by decide +kernel : isO 1315 9 = true)) rfl (s229 hv F y3 y2 σ) (by decide) (fun c19 σ18 => ?_)
        refine b_izF (c := .ne) (o := 7) (t := 254) (y := 0) (w := .null) (by decide +kernel) cmp_ne (fun _ => ?_) (fun _ => ?_)
        · refine b_run [(250, .iconst 1, 0, 0, .null), (251, .goto 4, 255, 0, .null)] (pc' := 255) (ls' := [some (.ref 1315), some (.int y1), some (.int y2), some (.int y3), some (.int z0)]) (st' := [.int 1]) (by decide +kernel) rfl ?_
          exact b_ret (i := (.ireturn, 0, 0, .null)) (by decide +kernel) rfl rfl (by decide +kernel)
        · refine b_run [(254, .iconst 0, 0, 0, .null)] (pc' := 255) (ls' := [some (.ref 1315), some (.int y1), some (.int y2), some (.int y3), some (.int z0)]) (st' := [.int 0]) (by decide +kernel) rfl ?_
          exact b_ret (i := (.ireturn, 0, 0, .null)) (by decide +kernel) rfl rfl (by decide +kernel)
      · refine b_run [(254, .iconst 0, 0, 0, .null)] (pc' := 255) (ls' := [some (.ref 1315), some (.int y1), some (.int y2), some (.int y3), some (.int z0)]) (st' := [.int 0]) (by decide +kernel) rfl ?_
        exact b_ret (i := (.ireturn, 0, 0, .null)) (by decide +kernel) rfl rfl (by decide +kernel)
    · refine b_run [(254, .iconst 0, 0, 0, .null)] (pc' := 255) (ls' := [some (.ref 1315), some (.int y1), some (.int y2), some (.int y3), some (.int z0)]) (st' := [.int 0]) (by decide +kernel) rfl ?_
      exact b_ret (i := (.ireturn, 0, 0, .null)) (by decide +kernel) rfl rfl (by decide +kernel)
  refine b_ite (fun e10 => ?_) (fun e10 => ?_)
  · refine b_sw (dl := 263) (lo := 0) (hi' := 10) (offs := #[58, 78, 98, 113, 120, 131, 151, 171, 191, 213, 238]) (t := 58) (y := 0) (w := .null) (by decide +kernel) (swE e10 (by decide +kernel : aSw 18 263 0 10 #[58, 78, 98, 113, 120, 131, 151, 171, 191, 213, 238] 10 = some 256)) ?_
    refine b_run [(256, .iload_n 2, 0, 0, .null), (257, .iload_n 3, 0, 0, .null)] (pc' := 258) (ls' := [some (.ref 1315), some (.int y1), some (.int y2), some (.int y3), some (.int z0)]) (st' := [.int y3, .int y2]) (by decide +kernel) rfl ?_
    refine b_icT (c := .eq) (o := 17) (t := 275) (y := 0) (w := .null) (by decide +kernel) cmp_eq (fun _ => ?_) (fun _ => ?_)
    · refine b_run [(275, .iconst 1, 0, 0, .null), (276, .goto 4, 280, 0, .null)] (pc' := 280) (ls' := [some (.ref 1315), some (.int y1), some (.int y2), some (.int y3), some (.int z0)]) (st' := [.int 1]) (by decide +kernel) rfl ?_
      exact b_ret (i := (.ireturn, 0, 0, .null)) (by decide +kernel) rfl rfl (by decide +kernel)
    · refine b_run [(261, .iload 4, 0, 0, .null)] (pc' := 263) (ls' := [some (.ref 1315), some (.int y1), some (.int y2), some (.int y3), some (.int z0)]) (st' := [.int z0]) (by decide +kernel) rfl ?_
      refine b_izF (c := .ne) (o := 16) (t := 279) (y := 0) (w := .null) (by decide +kernel) cmp_ne (fun _ => ?_) (fun _ => ?_)
      · refine b_run [(266, .aload_n 0, 0, 0, .null), (267, .iload_n 2, 0, 0, .null), (268, .iload_n 3, 0, 0, .null)] (pc' := 269) (ls' := [some (.ref 1315), some (.int y1), some (.int y2), some (.int y3), some (.int z0)]) (st' := [.int y3, .int y2, .ref 1315]) (by decide +kernel) rfl ?_
        refine b_callI 229 3 [.ref 1315, .int y2, .int y3] (rest := []) (by decide +kernel) rfl rfl rfl (go_O rfl (by decide +kernel) (by decide +kernel : isO 1315 9 = true)) rfl (s229 hv F y2 y3 σ) (by decide) (fun c21 σ20 => ?_)
        refine b_izT (c := .eq) (o := 7) (t := 279) (y := 0) (w := .null) (by decide +kernel) cmp_eq (fun _ => ?_) (fun _ => ?_)
        · refine b_run [(279, .iconst 0, 0, 0, .null)] (pc' := 280) (ls' := [some (.ref 1315), some (.int y1), some (.int y2), some (.int y3), some (.int z0)]) (st' := [.int 0]) (by decide +kernel) rfl ?_
          exact b_ret (i := (.ireturn, 0, 0, .null)) (by decide +kernel) rfl rfl (by decide +kernel)
        · refine b_run [(275, .iconst 1, 0, 0, .null), (276, .goto 4, 280, 0, .null)] (pc' := 280) (ls' := [some (.ref 1315), some (.int y1), some (.int y2), some (.int y3), some (.int z0)]) (st' := [.int 1]) (by decide +kernel) rfl ?_
          exact b_ret (i := (.ireturn, 0, 0, .null)) (by decide +kernel) rfl rfl (by decide +kernel)
      · refine b_run [(279, .iconst 0, 0, 0, .null)] (pc' := 280) (ls' := [some (.ref 1315), some (.int y1), some (.int y2), some (.int y3), some (.int z0)]) (st' := [.int 0]) (by decide +kernel) rfl ?_
        exact b_ret (i := (.ireturn, 0, 0, .null)) (by decide +kernel) rfl rfl (by decide +kernel)
  refine b_sw (dl := 263) (lo := 0) (hi' := 10) (offs := #[58, 78, 98, 113, 120, 131, 151, 171, 191, 213, 238]) (t := 58) (y := 0) (w := .null) (by decide +kernel) (swD (pc' := 281) (by have q0 : (y1 : Int32).toInt ≠ 0 := swN e0; have q1 : (y1 : Int32).toInt ≠ 1 := swN e1; have q2 : (y1 : Int32).toInt ≠ 2 := swN e2; have q3 : (y1 : Int32).toInt ≠ 3 := swN e3; have q4 : (y1 : Int32).toInt ≠ 4 := swN e4; have q5 : (y1 : Int32).toInt ≠ 5 := swN e5; have q6 : (y1 : Int32).toInt ≠ 6 := swN e6; have q7 : (y1 : Int32).toInt ≠ 7 := swN e7; have q8 : (y1 : Int32).toInt ≠ 8 := swN e8; have q9 : (y1 : Int32).toInt ≠ 9 := swN e9; have q10 : (y1 : Int32).toInt ≠ 10 := swN e10; omega) rfl) ?_
  refine b_run [(281, .iload_n 2, 0, 0, .null), (282, .iload_n 3, 0, 0, .null)] (pc' := 283) (ls' := [some (.ref 1315), some (.int y1), some (.int y2), some (.int y3), some (.int z0)]) (st' := [.int y3, .int y2]) (by decide +kernel) rfl ?_
  refine b_icT (c := .eq) (o := 12) (t := 295) (y := 0) (w := .null) (by decide +kernel) cmp_eq (fun _ => ?_) (fun _ => ?_)
  · refine b_run [(295, .iconst 1, 0, 0, .null), (296, .goto 4, 300, 0, .null)] (pc' := 300) (ls' := [some (.ref 1315), some (.int y1), some (.int y2), some (.int y3), some (.int z0)]) (st' := [.int 1]) (by decide +kernel) rfl ?_
    exact b_ret (i := (.ireturn, 0, 0, .null)) (by decide +kernel) rfl rfl (by decide +kernel)
  · refine b_run [(286, .aload_n 0, 0, 0, .null), (287, .iload_n 3, 0, 0, .null), (288, .iload_n 2, 0, 0, .null)] (pc' := 289) (ls' := [some (.ref 1315), some (.int y1), some (.int y2), some (.int y3), some (.int z0)]) (st' := [.int y2, .int y3, .ref 1315]) (by decide +kernel) rfl ?_
    refine b_callI 229 3 [.ref 1315, .int y3, .int y2] (rest := []) (by decide +kernel) rfl rfl rfl (go_O rfl (by decide +kernel) (by decide +kernel : isO 1315 9 = true)) rfl (s229 hv F y3 y2 σ) (by decide) (fun c23 σ22 => ?_)
    refine b_izT (c := .eq) (o := 7) (t := 299) (y := 0) (w := .null) (by decide +kernel) cmp_eq (fun _ => ?_) (fun _ => ?_)
    · refine b_run [(299, .iconst 0, 0, 0, .null)] (pc' := 300) (ls' := [some (.ref 1315), some (.int y1), some (.int y2), some (.int y3), some (.int z0)]) (st' := [.int 0]) (by decide +kernel) rfl ?_
      exact b_ret (i := (.ireturn, 0, 0, .null)) (by decide +kernel) rfl rfl (by decide +kernel)
    · refine b_run [(295, .iconst 1, 0, 0, .null), (296, .goto 4, 300, 0, .null)] (pc' := 300) (ls' := [some (.ref 1315), some (.int y1), some (.int y2), some (.int y3), some (.int z0)]) (st' := [.int 1]) (by decide +kernel) rfl ?_
      exact b_ret (i := (.ireturn, 0, 0, .null)) (by decide +kernel) rfl rfl (by decide +kernel)
/-- TreeStoreModel.on(III)Z -/
def f228 (F : Nat) (x1 : Int32) (x2 : Int32) (x3 : Int32) (σ : St) : Rs := if inB x3 31 then lt (σ.1 1317 x3.toNatClampNeg) fun c1 => 
    if c1 = 2 then f228_15 F x1 x2 x3 1 σ
    else f228_15 F x1 x2 x3 0 σ else none
theorem s228 {sc : aSc} (hv : vOk sc) (F : Nat) (x1 : Int32) (x2 : Int32) (x3 : Int32) (σ : St) : bEx sc 2 228 0 [some (.ref 1315), some (.int x1), some (.int x2), some (.int x3), none] [] σ (f228 F x1 x2 x3 σ) := by
  unfold f228
  refine b_run [(0, .aload_n 0, 0, 0, .null)] (pc' := 1) (ls' := [some (.ref 1315), some (.int x1), some (.int x2), some (.int x3), none]) (st' := [.ref 1315]) (by decide +kernel) rfl ?_
  refine b_getC (b := 1317) (q := 13) (ci := 9) (k := 4) (w := .null) (by decide +kernel) (by decide +kernel) ?_
  refine b_run [(4, .iload_n 3, 0, 0, .null)] (pc' := 5) (ls' := [some (.ref 1315), some (.int x1), some (.int x2), some (.int x3), none]) (st' := [.int x3, .ref 1317]) (by decide +kernel) rfl ?_
  refine b_guard (fun hb => ?_)
  refine b_aI (ci := 0) (y := 0) (w := .null) (by decide +kernel) (by decide +kernel) hb (fun c1 => ?_)
  refine b_run [(6, .iconst 2, 0, 0, .null)] (pc' := 7) (ls' := [some (.ref 1315), some (.int x1), some (.int x2), some (.int x3), none]) (st' := [.int 2, .int c1]) (by decide +kernel) rfl ?_
  refine b_icF (c := .ne) (o := 7) (t := 14) (y := 0) (w := .null) (by decide +kernel) cmp_ne (fun _ => ?_) (fun _ => ?_)
  · refine b_run [(10, .iconst 1, 0, 0, .null), (11, .goto 4, 15, 0, .null)] (pc' := 15) (ls' := [some (.ref 1315), some (.int x1), some (.int x2), some (.int x3), none]) (st' := [.int 1]) (by decide +kernel) rfl ?_
    exact b_wk (wS (wS (wS (wS (wN w0))))) (s228_15 hv F x1 x2 x3 1 σ)
  · refine b_run [(14, .iconst 0, 0, 0, .null)] (pc' := 15) (ls' := [some (.ref 1315), some (.int x1), some (.int x2), some (.int x3), none]) (st' := [.int 0]) (by decide +kernel) rfl ?_
    exact b_wk (wS (wS (wS (wS (wN w0))))) (s228_15 hv F x1 x2 x3 0 σ)
def f231_116 (F : Nat) (k64 : Int32 → Int32 → Int32 → Int32 → St → Rs) (y1 : Int32) (y2 : Int32) (y6 : Int32) (z0 : Int32) (σ : St) : Rs := k64 y1 y2 z0 (y6 + 1) σ
theorem s231_116 {sc : aSc} (hv : vOk sc) (F : Nat) (k64 : Int32 → Int32 → Int32 → Int32 → St → Rs) (hk64 : ∀ y1 y2 y5 y6 σ, bEx sc 0 231 64 [some (.ref 1315), some (.int y1), some (.int y2), none, none, some (.int y5), some (.int y6)] [] σ (k64 y1 y2 y5 y6 σ)) (y1 : Int32) (y2 : Int32) (y6 : Int32) (z0 : Int32) (σ : St) : bEx sc 0 231 116 [some (.ref 1315), some (.int y1), some (.int y2), none, none, none, some (.int y6)] [.int z0] σ (f231_116 F k64 y1 y2 y6 z0 σ) := by
  unfold f231_116
  refine b_run [(116, .istore 5, 0, 0, .null), (118, .iinc 6 1, 0, 0, .null), (121, .goto (-57), 64, 0, .null)] (pc' := 64) (ls' := [some (.ref 1315), some (.int y1), some (.int y2), none, none, some (.int z0), some (.int (y6 + 1))]) (st' := []) (by decide +kernel) rfl ?_
  exact b_wk (wS (wS (wS (wN (wN (wS (wS w0))))))) (hk64 y1 y2 z0 (y6 + 1) σ)
def f231_64 (F : Nat) : Nat → Int32 → Int32 → Int32 → Int32 → St → Rs
  | 0, _, _, _, _, _ => none
  | n + 1, y1, y2, y5, y6, σ => if inB y1 130 then lt (σ.1 1346 y1.toNatClampNeg) fun c6 => 
    if y6 < c6 then 
    if y5 = 0 then if y5 = 0 ∨ y5 = 1 then oI y5 σ else none
    else if inB y2 31 then lt (σ.1 1319 y2.toNatClampNeg) fun c7 => 
    if inB (c7 + y6) 4300 then lt (σ.1 1323 (c7 + y6).toNatClampNeg) fun c8 => 
    if inB y1 130 then lt (σ.1 1345 y1.toNatClampNeg) fun c9 => 
    if inB (c9 + y6) 122 then lt (σ.1 1316 (c9 + y6).toNatClampNeg) fun c10 => 
    if c8 = c10 then f231_116 F (f231_64 F n) y1 y2 y6 1 σ
    else f231_116 F (f231_64 F n) y1 y2 y6 0 σ else none else none else none else none
    else if y5 = 0 ∨ y5 = 1 then oI y5 σ else none else none
theorem s231_64 {sc : aSc} (hv : vOk sc) (F : Nat) : ∀ (n : Nat) (y1 : Int32) (y2 : Int32) (y5 : Int32) (y6 : Int32) (σ : St), bEx sc 0 231 64 [some (.ref 1315), some (.int y1), some (.int y2), none, none, some (.int y5), some (.int y6)] [] σ (f231_64 F n y1 y2 y5 y6 σ) := by
  intro n
  induction n with
  | zero => intro y1 y2 y5 y6 σ; exact b_none
  | succ n ih =>
    intro y1 y2 y5 y6 σ
    rw [f231_64.eq_2]
    refine b_run [(64, .iload 6, 0, 0, .null), (66, .aload_n 0, 0, 0, .null)] (pc' := 67) (ls' := [some (.ref 1315), some (.int y1), some (.int y2), none, none, some (.int y5), some (.int y6)]) (st' := [.ref 1315, .int y6]) (by decide +kernel) rfl ?_
    refine b_getC (b := 1346) (q := 102) (ci := 9) (k := 43) (w := .null) (by decide +kernel) (by decide +kernel) ?_
    refine b_run [(70, .iload_n 1, 0, 0, .null)] (pc' := 71) (ls' := [some (.ref 1315), some (.int y1), some (.int y2), none, none, some (.int y5), some (.int y6)]) (st' := [.int y1, .ref 1346, .int y6]) (by decide +kernel) rfl ?_
    refine b_guard (fun hb => ?_)
    refine b_aI (ci := 0) (y := 0) (w := .null) (by decide +kernel) (by decide +kernel) hb (fun c6 => ?_)
    refine b_icF (c := .ge) (o := 52) (t := 124) (y := 0) (w := .null) (by decide +kernel) cmp_ge (fun _ => ?_) (fun _ => ?_)
    · refine b_run [(75, .iload 5, 0, 0, .null)] (pc' := 77) (ls' := [some (.ref 1315), some (.int y1), some (.int y2), none, none, some (.int y5), some (.int y6)]) (st' := [.int y5]) (by decide +kernel) rfl ?_
      refine b_izT (c := .eq) (o := 47) (t := 124) (y := 0) (w := .null) (by decide +kernel) cmp_eq (fun _ => ?_) (fun _ => ?_)
      · refine b_run [(124, .iload 5, 0, 0, .null)] (pc' := 126) (ls' := [some (.ref 1315), some (.int y1), some (.int y2), none, none, some (.int y5), some (.int y6)]) (st' := [.int y5]) (by decide +kernel) rfl ?_
        exact b_guard (fun hz => b_ret (i := (.ireturn, 0, 0, .null)) (by decide +kernel) rfl rfl (fit_Z hz))
      · refine b_run [(80, .aload_n 0, 0, 0, .null)] (pc' := 81) (ls' := [some (.ref 1315), some (.int y1), some (.int y2), none, none, some (.int y5), some (.int y6)]) (st' := [.ref 1315]) (by decide +kernel) rfl ?_
        refine b_getC (b := 1323) (q := 31) (ci := 9) (k := 10) (w := .null) (by decide +kernel) (by decide +kernel) ?_
        refine b_run [(84, .aload_n 0, 0, 0, .null)] (pc' := 85) (ls' := [some (.ref 1315), some (.int y1), some (.int y2), none, none, some (.int y5), some (.int y6)]) (st' := [.ref 1315, .ref 1323]) (by decide +kernel) rfl ?_
        refine b_getC (b := 1319) (q := 19) (ci := 9) (k := 6) (w := .null) (by decide +kernel) (by decide +kernel) ?_
        refine b_run [(88, .iload_n 2, 0, 0, .null)] (pc' := 89) (ls' := [some (.ref 1315), some (.int y1), some (.int y2), none, none, some (.int y5), some (.int y6)]) (st' := [.int y2, .ref 1319, .ref 1323]) (by decide +kernel) rfl ?_
        refine b_guard (fun hb => ?_)
        refine b_aI (ci := 0) (y := 0) (w := .null) (by decide +kernel) (by decide +kernel) hb (fun c7 => ?_)
        refine b_run [(90, .iload 6, 0, 0, .null), (92, .iadd, 0, 0, .null)] (pc' := 93) (ls' := [some (.ref 1315), some (.int y1), some (.int y2), none, none, some (.int y5), some (.int y6)]) (st' := [.int (c7 + y6), .ref 1323]) (by decide +kernel) rfl ?_
        refine b_guard (fun hb => ?_)
        refine b_aC (ci := 0) (y := 0) (w := .null) (by decide +kernel) (by decide +kernel) hb (fun c8 => ?_)
        refine b_run [(94, .aload_n 0, 0, 0, .null)] (pc' := 95) (ls' := [some (.ref 1315), some (.int y1), some (.int y2), none, none, some (.int y5), some (.int y6)]) (st' := [.ref 1315, .int c8]) (by decide +kernel) rfl ?_
        refine b_getC (b := 1316) (q := 7) (ci := 9) (k := 2) (w := .null) (by decide +kernel) (by decide +kernel) ?_
        refine b_run [(98, .aload_n 0, 0, 0, .null)] (pc' := 99) (ls' := [some (.ref 1315), some (.int y1), some (.int y2), none, none, some (.int y5), some (.int y6)]) (st' := [.ref 1315, .ref 1316, .int c8]) (by decide +kernel) rfl ?_
        refine b_getC (b := 1345) (q := 99) (ci := 9) (k := 42) (w := .null) (by decide +kernel) (by decide +kernel) ?_
        refine b_run [(102, .iload_n 1, 0, 0, .null)] (pc' := 103) (ls' := [some (.ref 1315), some (.int y1), some (.int y2), none, none, some (.int y5), some (.int y6)]) (st' := [.int y1, .ref 1345, .ref 1316, .int c8]) (by decide +kernel) rfl ?_
        refine b_guard (fun hb => ?_)
        refine b_aI (ci := 0) (y := 0) (w := .null) (by decide +kernel) (by decide +kernel) hb (fun c9 => ?_)
        refine b_run [(104, .iload 6, 0, 0, .null), (106, .iadd, 0, 0, .null)] (pc' := 107) (ls' := [some (.ref 1315), some (.int y1), some (.int y2), none, none, some (.int y5), some (.int y6)]) (st' := [.int (c9 + y6), .ref 1316, .int c8]) (by decide +kernel) rfl ?_
        refine b_guard (fun hb => ?_)
        refine b_aI (ci := 0) (y := 0) (w := .null) (by decide +kernel) (by decide +kernel) hb (fun c10 => ?_)
        refine b_icF (c := .ne) (o := 7) (t := 115) (y := 0) (w := .null) (by decide +kernel) cmp_ne (fun _ => ?_) (fun _ => ?_)
        · refine b_run [(111, .iconst 1, 0, 0, .null), (112, .goto 4, 116, 0, .null)] (pc' := 116) (ls' := [some (.ref 1315), some (.int y1), some (.int y2), none, none, some (.int y5), some (.int y6)]) (st' := [.int 1]) (by decide +kernel) rfl ?_
          exact b_wk (wS (wS (wS (wN (wN (wN (wS w0))))))) (s231_116 hv F (f231_64 F n) ih y1 y2 y6 1 σ)
        · refine b_run [(115, .iconst 0, 0, 0, .null)] (pc' := 116) (ls' := [some (.ref 1315), some (.int y1), some (.int y2), none, none, some (.int y5), some (.int y6)]) (st' := [.int 0]) (by decide +kernel) rfl ?_
          exact b_wk (wS (wS (wS (wN (wN (wN (wS w0))))))) (s231_116 hv F (f231_64 F n) ih y1 y2 y6 0 σ)
    · refine b_run [(124, .iload 5, 0, 0, .null)] (pc' := 126) (ls' := [some (.ref 1315), some (.int y1), some (.int y2), none, none, some (.int y5), some (.int y6)]) (st' := [.int y5]) (by decide +kernel) rfl ?_
      exact b_guard (fun hz => b_ret (i := (.ireturn, 0, 0, .null)) (by decide +kernel) rfl rfl (fit_Z hz))
def f231_59 (F : Nat) (y1 : Int32) (y2 : Int32) (z0 : Int32) (σ : St) : Rs := f231_64 F F y1 y2 z0 0 σ
theorem s231_59 {sc : aSc} (hv : vOk sc) (F : Nat) (y1 : Int32) (y2 : Int32) (z0 : Int32) (σ : St) : bEx sc 0 231 59 [some (.ref 1315), some (.int y1), some (.int y2), none, none, none, none] [.int z0] σ (f231_59 F y1 y2 z0 σ) := by
  unfold f231_59
  refine b_run [(59, .istore 5, 0, 0, .null), (61, .iconst 0, 0, 0, .null), (62, .istore 6, 0, 0, .null)] (pc' := 64) (ls' := [some (.ref 1315), some (.int y1), some (.int y2), none, none, some (.int z0), some (.int 0)]) (st' := []) (by decide +kernel) rfl ?_
  exact b_wk (wS (wS (wS (wN (wN (wS (wS w0))))))) (s231_64 hv F F y1 y2 z0 0 σ)
def f231_58 (F : Nat) (y1 : Int32) (y2 : Int32) (σ : St) : Rs := f231_59 F y1 y2 0 σ
theorem s231_58 {sc : aSc} (hv : vOk sc) (F : Nat) (y1 : Int32) (y2 : Int32) (σ : St) : bEx sc 0 231 58 [some (.ref 1315), some (.int y1), some (.int y2), none, none, none, none] [] σ (f231_58 F y1 y2 σ) := by
  unfold f231_58
  refine b_run [(58, .iconst 0, 0, 0, .null)] (pc' := 59) (ls' := [some (.ref 1315), some (.int y1), some (.int y2), none, none, none, none]) (st' := [.int 0]) (by decide +kernel) rfl ?_
  exact b_wk (wS (wS (wS (wN (wN (wN (wN w0))))))) (s231_59 hv F y1 y2 0 σ)
def f231_22 (F : Nat) (y1 : Int32) (y2 : Int32) (y3 : Int32) (z0 : Int32) (σ : St) : Rs := if y3 = 0 then 
    if inB y2 31 then lt (σ.1 1317 y2.toNatClampNeg) fun c3 => 
    if c3 = z0 then 
    if inB y2 31 then lt (σ.1 1320 y2.toNatClampNeg) fun c4 => 
    if inB y1 130 then lt (σ.1 1346 y1.toNatClampNeg) fun c5 => 
    if c4 = c5 then f231_59 F y1 y2 1 σ
    else f231_58 F y1 y2 σ else none else none
    else f231_58 F y1 y2 σ else none
    else if y3 = 4 then oI 1 σ
    else if inB y2 31 then lt (σ.1 1317 y2.toNatClampNeg) fun c11 => 
    if y3 = 1 then 
    if c11 = z0 then oI 1 σ
    else oI 0 σ
    else if y3 = 2 then 
    if c11 = 3 then oI 1 σ
    else oI 0 σ
    else if c11 = 4 then oI 1 σ
    else oI 0 σ else none
theorem s231_22 {sc : aSc} (hv : vOk sc) (F : Nat) (y1 : Int32) (y2 : Int32) (y3 : Int32) (z0 : Int32) (σ : St) : bEx sc 0 231 22 [some (.ref 1315), some (.int y1), some (.int y2), some (.int y3), none, none, none] [.int z0] σ (f231_22 F y1 y2 y3 z0 σ) := by
  unfold f231_22
  refine b_run [(22, .istore 4, 0, 0, .null), (24, .iload_n 3, 0, 0, .null)] (pc' := 25) (ls' := [some (.ref 1315), some (.int y1), some (.int y2), some (.int y3), some (.int z0), none, none]) (st' := [.int y3]) (by decide +kernel) rfl ?_
  refine b_izF (c := .ne) (o := 102) (t := 127) (y := 0) (w := .null) (by decide +kernel) cmp_ne (fun _ => ?_) (fun _ => ?_)
  · refine b_run [(28, .aload_n 0, 0, 0, .null)] (pc' := 29) (ls' := [some (.ref 1315), some (.int y1), some (.int y2), some (.int y3), some (.int z0), none, none]) (st' := [.ref 1315]) (by decide +kernel) rfl ?_
    refine b_getC (b := 1317) (q := 13) (ci := 9) (k := 4) (w := .null) (by decide +kernel) (by decide +kernel) ?_
    refine b_run [(32, .iload_n 2, 0, 0, .null)] (pc' := 33) (ls' := [some (.ref 1315), some (.int y1), some (.int y2), some (.int y3), some (.int z0), none, none]) (st' := [.int y2, .ref 1317]) (by decide +kernel) rfl ?_
    refine b_guard (fun hb => ?_)
    refine b_aI (ci := 0) (y := 0) (w := .null) (by decide +kernel) (by decide +kernel) hb (fun c3 => ?_)
    refine b_run [(34, .iload 4, 0, 0, .null)] (pc' := 36) (ls' := [some (.ref 1315), some (.int y1), some (.int y2), some (.int y3), some (.int z0), none, none]) (st' := [.int z0, .int c3]) (by decide +kernel) rfl ?_
    refine b_icF (c := .ne) (o := 22) (t := 58) (y := 0) (w := .null) (by decide +kernel) cmp_ne (fun _ => ?_) (fun _ => ?_)
    · refine b_run [(39, .aload_n 0, 0, 0, .null)] (pc' := 40) (ls' := [some (.ref 1315), some (.int y1), some (.int y2), some (.int y3), some (.int z0), none, none]) (st' := [.ref 1315]) (by decide +kernel) rfl ?_
      refine b_getC (b := 1320) (q := 22) (ci := 9) (k := 7) (w := .null) (by decide +kernel) (by decide +kernel) ?_
      refine b_run [(43, .iload_n 2, 0, 0, .null)] (pc' := 44) (ls' := [some (.ref 1315), some (.int y1), some (.int y2), some (.int y3), some (.int z0), none, none]) (st' := [.int y2, .ref 1320]) (by decide +kernel) rfl ?_
      refine b_guard (fun hb => ?_)
      refine b_aI (ci := 0) (y := 0) (w := .null) (by decide +kernel) (by decide +kernel) hb (fun c4 => ?_)
      refine b_run [(45, .aload_n 0, 0, 0, .null)] (pc' := 46) (ls' := [some (.ref 1315), some (.int y1), some (.int y2), some (.int y3), some (.int z0), none, none]) (st' := [.ref 1315, .int c4]) (by decide +kernel) rfl ?_
      refine b_getC (b := 1346) (q := 102) (ci := 9) (k := 43) (w := .null) (by decide +kernel) (by decide +kernel) ?_
      refine b_run [(49, .iload_n 1, 0, 0, .null)] (pc' := 50) (ls' := [some (.ref 1315), some (.int y1), some (.int y2), some (.int y3), some (.int z0), none, none]) (st' := [.int y1, .ref 1346, .int c4]) (by decide +kernel) rfl ?_
      refine b_guard (fun hb => ?_)
      refine b_aI (ci := 0) (y := 0) (w := .null) (by decide +kernel) (by decide +kernel) hb (fun c5 => ?_)
      refine b_icF (c := .ne) (o := 7) (t := 58) (y := 0) (w := .null) (by decide +kernel) cmp_ne (fun _ => ?_) (fun _ => ?_)
      · refine b_run [(54, .iconst 1, 0, 0, .null), (55, .goto 4, 59, 0, .null)] (pc' := 59) (ls' := [some (.ref 1315), some (.int y1), some (.int y2), some (.int y3), some (.int z0), none, none]) (st' := [.int 1]) (by decide +kernel) rfl ?_
        exact b_wk (wS (wS (wS (wN (wN (wN (wN w0))))))) (s231_59 hv F y1 y2 1 σ)
      · exact b_wk (wS (wS (wS (wN (wN (wN (wN w0))))))) (s231_58 hv F y1 y2 σ)
    · exact b_wk (wS (wS (wS (wN (wN (wN (wN w0))))))) (s231_58 hv F y1 y2 σ)
  · refine b_run [(127, .iload_n 3, 0, 0, .null), (128, .iconst 4, 0, 0, .null)] (pc' := 129) (ls' := [some (.ref 1315), some (.int y1), some (.int y2), some (.int y3), some (.int z0), none, none]) (st' := [.int 4, .int y3]) (by decide +kernel) rfl ?_
    refine b_icT (c := .eq) (o := 32) (t := 161) (y := 0) (w := .null) (by decide +kernel) cmp_eq (fun _ => ?_) (fun _ => ?_)
    · refine b_run [(161, .iconst 1, 0, 0, .null), (162, .goto 4, 166, 0, .null)] (pc' := 166) (ls' := [some (.ref 1315), some (.int y1), some (.int y2), some (.int y3), some (.int z0), none, none]) (st' := [.int 1]) (by decide +kernel) rfl ?_
      exact b_ret (i := (.ireturn, 0, 0, .null)) (by decide +kernel) rfl rfl (by decide +kernel)
    · refine b_run [(132, .aload_n 0, 0, 0, .null)] (pc' := 133) (ls' := [some (.ref 1315), some (.int y1), some (.int y2), some (.int y3), some (.int z0), none, none]) (st' := [.ref 1315]) (by decide +kernel) rfl ?_
      refine b_getC (b := 1317) (q := 13) (ci := 9) (k := 4) (w := .null) (by decide +kernel) (by decide +kernel) ?_
      refine b_run [(136, .iload_n 2, 0, 0, .null)] (pc' := 137) (ls' := [some (.ref 1315), some (.int y1), some (.int y2), some (.int y3), some (.int z0), none, none]) (st' := [.int y2, .ref 1317]) (by decide +kernel) rfl ?_
      refine b_guard (fun hb => ?_)
      refine b_aI (ci := 0) (y := 0) (w := .null) (by decide +kernel) (by decide +kernel) hb (fun c11 => ?_)
      refine b_run [(138, .iload_n 3, 0, 0, .null), (139, .iconst 1, 0, 0, .null)] (pc' := 140) (ls' := [some (.ref 1315), some (.int y1), some (.int y2), some (.int y3), some (.int z0), none, none]) (st' := [.int 1, .int y3, .int c11]) (by decide +kernel) rfl ?_
      refine b_icF (c := .ne) (o := 8) (t := 148) (y := 0) (w := .null) (by decide +kernel) cmp_ne (fun _ => ?_) (fun _ => ?_)
      · refine b_run [(143, .iload 4, 0, 0, .null), (145, .goto 13, 158, 0, .null)] (pc' := 158) (ls' := [some (.ref 1315), some (.int y1), some (.int y2), some (.int y3), some (.int z0), none, none]) (st' := [.int z0, .int c11]) (by decide +kernel) rfl ?_
        refine b_icF (c := .ne) (o := 7) (t := 165) (y := 0) (w := .null) (by decide +kernel) cmp_ne (fun _ => ?_) (fun _ => ?_)
        · refine b_run [(161, .iconst 1, 0, 0, .null), (162, .goto 4, 166, 0, .null)] (pc' := 166) (ls' := [some (.ref 1315), some (.int y1), some (.int y2), some (.int y3), some (.int z0), none, none]) (st' := [.int 1]) (by decide +kernel) rfl ?_
          exact b_ret (i := (.ireturn, 0, 0, .null)) (by decide +kernel) rfl rfl (by decide +kernel)
        · refine b_run [(165, .iconst 0, 0, 0, .null)] (pc' := 166) (ls' := [some (.ref 1315), some (.int y1), some (.int y2), some (.int y3), some (.int z0), none, none]) (st' := [.int 0]) (by decide +kernel) rfl ?_
          exact b_ret (i := (.ireturn, 0, 0, .null)) (by decide +kernel) rfl rfl (by decide +kernel)
      · refine b_run [(148, .iload_n 3, 0, 0, .null), (149, .iconst 2, 0, 0, .null)] (pc' := 150) (ls' := [some (.ref 1315), some (.int y1), some (.int y2), some (.int y3), some (.int z0), none, none]) (st' := [.int 2, .int y3, .int c11]) (by decide +kernel) rfl ?_
        refine b_icF (c := .ne) (o := 7) (t := 157) (y := 0) (w := .null) (by decide +kernel) cmp_ne (fun _ => ?_) (fun _ => ?_)
        · refine b_run [(153, .iconst 3, 0, 0, .null), (154, .goto 4, 158, 0, .null)] (pc' := 158) (ls' := [some (.ref 1315), some (.int y1), some (.int y2), some (.int y3), some (.int z0), none, none]) (st' := [.int 3, .int c11]) (by decide +kernel) rfl ?_
          refine b_icF (c := .ne) (o := 7) (t := 165) (y := 0) (w := .null) (by decide +kernel) cmp_ne (fun _ => ?_) (fun _ => ?_)
          · refine b_run [(161, .iconst 1, 0, 0, .null), (162, .goto 4, 166, 0, .null)] (pc' := 166) (ls' := [some (.ref 1315), some (.int y1), some (.int y2), some (.int y3), some (.int z0), none, none]) (st' := [.int 1]) (by decide +kernel) rfl ?_
            exact b_ret (i := (.ireturn, 0, 0, .null)) (by decide +kernel) rfl rfl (by decide +kernel)
          · refine b_run [(165, .iconst 0, 0, 0, .null)] (pc' := 166) (ls' := [some (.ref 1315), some (.int y1), some (.int y2), some (.int y3), some (.int z0), none, none]) (st' := [.int 0]) (by decide +kernel) rfl ?_
            exact b_ret (i := (.ireturn, 0, 0, .null)) (by decide +kernel) rfl rfl (by decide +kernel)
        · refine b_run [(157, .iconst 4, 0, 0, .null)] (pc' := 158) (ls' := [some (.ref 1315), some (.int y1), some (.int y2), some (.int y3), some (.int z0), none, none]) (st' := [.int 4, .int c11]) (by decide +kernel) rfl ?_
          refine b_icF (c := .ne) (o := 7) (t := 165) (y := 0) (w := .null) (by decide +kernel) cmp_ne (fun _ => ?_) (fun _ => ?_)
          · refine b_run [(161, .iconst 1, 0, 0, .null), (162, .goto 4, 166, 0, .null)] (pc' := 166) (ls' := [some (.ref 1315), some (.int y1), some (.int y2), some (.int y3), some (.int z0), none, none]) (st' := [.int 1]) (by decide +kernel) rfl ?_
            exact b_ret (i := (.ireturn, 0, 0, .null)) (by decide +kernel) rfl rfl (by decide +kernel)
          · refine b_run [(165, .iconst 0, 0, 0, .null)] (pc' := 166) (ls' := [some (.ref 1315), some (.int y1), some (.int y2), some (.int y3), some (.int z0), none, none]) (st' := [.int 0]) (by decide +kernel) rfl ?_
            exact b_ret (i := (.ireturn, 0, 0, .null)) (by decide +kernel) rfl rfl (by decide +kernel)
/-- TreeStoreModel.passes(II)Z -/
def f231 (F : Nat) (x1 : Int32) (x2 : Int32) (σ : St) : Rs := if inB x1 130 then lt (σ.1 1344 x1.toNatClampNeg) fun c1 => 
    if inB x1 130 then lt (σ.1 1343 x1.toNatClampNeg) fun c2 => 
    if c2 = 5 then f231_22 F x1 x2 c1 2 σ
    else f231_22 F x1 x2 c1 1 σ else none else none
theorem s231 {sc : aSc} (hv : vOk sc) (F : Nat) (x1 : Int32) (x2 : Int32) (σ : St) : bEx sc 0 231 0 [some (.ref 1315), some (.int x1), some (.int x2), none, none, none, none] [] σ (f231 F x1 x2 σ) := by
  unfold f231
  refine b_run [(0, .aload_n 0, 0, 0, .null)] (pc' := 1) (ls' := [some (.ref 1315), some (.int x1), some (.int x2), none, none, none, none]) (st' := [.ref 1315]) (by decide +kernel) rfl ?_
  refine b_getC (b := 1344) (q := 96) (ci := 9) (k := 41) (w := .null) (by decide +kernel) (by decide +kernel) ?_
  refine b_run [(4, .iload_n 1, 0, 0, .null)] (pc' := 5) (ls' := [some (.ref 1315), some (.int x1), some (.int x2), none, none, none, none]) (st' := [.int x1, .ref 1344]) (by decide +kernel) rfl ?_
  refine b_guard (fun hb => ?_)
  refine b_aI (ci := 0) (y := 0) (w := .null) (by decide +kernel) (by decide +kernel) hb (fun c1 => ?_)
  refine b_run [(6, .istore_n 3, 0, 0, .null), (7, .aload_n 0, 0, 0, .null)] (pc' := 8) (ls' := [some (.ref 1315), some (.int x1), some (.int x2), some (.int c1), none, none, none]) (st' := [.ref 1315]) (by decide +kernel) rfl ?_
  refine b_getC (b := 1343) (q := 93) (ci := 9) (k := 40) (w := .null) (by decide +kernel) (by decide +kernel) ?_
  refine b_run [(11, .iload_n 1, 0, 0, .null)] (pc' := 12) (ls' := [some (.ref 1315), some (.int x1), some (.int x2), some (.int c1), none, none, none]) (st' := [.int x1, .ref 1343]) (by decide +kernel) rfl ?_
  refine b_guard (fun hb => ?_)
  refine b_aI (ci := 0) (y := 0) (w := .null) (by decide +kernel) (by decide +kernel) hb (fun c2 => ?_)
  refine b_run [(13, .iconst 5, 0, 0, .null)] (pc' := 14) (ls' := [some (.ref 1315), some (.int x1), some (.int x2), some (.int c1), none, none, none]) (st' := [.int 5, .int c2]) (by decide +kernel) rfl ?_
  refine b_icF (c := .ne) (o := 7) (t := 21) (y := 0) (w := .null) (by decide +kernel) cmp_ne (fun _ => ?_) (fun _ => ?_)
  · refine b_run [(17, .iconst 2, 0, 0, .null), (18, .goto 4, 22, 0, .null)] (pc' := 22) (ls' := [some (.ref 1315), some (.int x1), some (.int x2), some (.int c1), none, none, none]) (st' := [.int 2]) (by decide +kernel) rfl ?_
    exact b_wk (wS (wS (wS (wS (wN (wN (wN w0))))))) (s231_22 hv F x1 x2 c1 2 σ)
  · refine b_run [(21, .iconst 1, 0, 0, .null)] (pc' := 22) (ls' := [some (.ref 1315), some (.int x1), some (.int x2), some (.int c1), none, none, none]) (st' := [.int 1]) (by decide +kernel) rfl ?_
    exact b_wk (wS (wS (wS (wS (wN (wN (wN w0))))))) (s231_22 hv F x1 x2 c1 1 σ)
def f227_49 (F : Nat) (k5 : Int32 → Int32 → Int32 → Int32 → St → Rs) (y1 : Int32) (y2 : Int32) (y4 : Int32) (z0 : Int32) (z1 : Int32) (σ : St) : Rs := lt (z0 ||| z1) fun c5 => k5 y1 y2 c5 (y4 + 1) σ
theorem s227_49 {sc : aSc} (hv : vOk sc) (F : Nat) (k5 : Int32 → Int32 → Int32 → Int32 → St → Rs) (hk5 : ∀ y1 y2 y3 y4 σ, bEx sc 10 227 5 [some (.ref 1315), some (.int y1), some (.int y2), some (.int y3), some (.int y4)] [] σ (k5 y1 y2 y3 y4 σ)) (y1 : Int32) (y2 : Int32) (y4 : Int32) (z0 : Int32) (z1 : Int32) (σ : St) : bEx sc 10 227 49 [some (.ref 1315), some (.int y1), some (.int y2), none, some (.int y4)] [.int z1, .int z0] σ (f227_49 F k5 y1 y2 y4 z0 z1 σ) := by
  unfold f227_49
  refine b_run [(49, .ior, 0, 0, .null), (50, .istore_n 3, 0, 0, .null)] (pc' := 51) (ls' := [some (.ref 1315), some (.int y1), some (.int y2), some (.int (z0 ||| z1)), some (.int y4)]) (st' := []) (by decide +kernel) rfl ?_
  refine b_let (z0 ||| z1) (L := fun c5 => [some (.ref 1315), some (.int y1), some (.int y2), some (.int c5), some (.int y4)]) (S := fun _ => []) (fun c5 => ?_)
  refine b_run [(51, .iinc 4 1, 0, 0, .null), (54, .goto (-49), 5, 0, .null)] (pc' := 5) (ls' := [some (.ref 1315), some (.int y1), some (.int y2), some (.int c5), some (.int (y4 + 1))]) (st' := []) (by decide +kernel) rfl ?_
  exact b_wk (wS (wS (wS (wS (wS w0))))) (hk5 y1 y2 c5 (y4 + 1) σ)
def f227_48 (F : Nat) (k5 : Int32 → Int32 → Int32 → Int32 → St → Rs) (y1 : Int32) (y2 : Int32) (y4 : Int32) (z0 : Int32) (σ : St) : Rs := f227_49 F k5 y1 y2 y4 z0 0 σ
theorem s227_48 {sc : aSc} (hv : vOk sc) (F : Nat) (k5 : Int32 → Int32 → Int32 → Int32 → St → Rs) (hk5 : ∀ y1 y2 y3 y4 σ, bEx sc 10 227 5 [some (.ref 1315), some (.int y1), some (.int y2), some (.int y3), some (.int y4)] [] σ (k5 y1 y2 y3 y4 σ)) (y1 : Int32) (y2 : Int32) (y4 : Int32) (z0 : Int32) (σ : St) : bEx sc 10 227 48 [some (.ref 1315), some (.int y1), some (.int y2), none, some (.int y4)] [.int z0] σ (f227_48 F k5 y1 y2 y4 z0 σ) := by
  unfold f227_48
  refine b_run [(48, .iconst 0, 0, 0, .null)] (pc' := 49) (ls' := [some (.ref 1315), some (.int y1), some (.int y2), none, some (.int y4)]) (st' := [.int 0, .int z0]) (by decide +kernel) rfl ?_
  exact b_wk (wS (wS (wS (wN (wS w0))))) (s227_49 hv F k5 hk5 y1 y2 y4 z0 0 σ)
def f227_100 (F : Nat) (k60 : Int32 → Int32 → Int32 → St → Rs) (y1 : Int32) (y4 : Int32) (z0 : Int32) (σ : St) : Rs := k60 y1 z0 (y4 + 1) σ
theorem s227_100 {sc : aSc} (hv : vOk sc) (F : Nat) (k60 : Int32 → Int32 → Int32 → St → Rs) (hk60 : ∀ y1 y3 y4 σ, bEx sc 10 227 60 [some (.ref 1315), some (.int y1), none, some (.int y3), some (.int y4)] [] σ (k60 y1 y3 y4 σ)) (y1 : Int32) (y4 : Int32) (z0 : Int32) (σ : St) : bEx sc 10 227 100 [some (.ref 1315), some (.int y1), none, none, some (.int y4)] [.int z0] σ (f227_100 F k60 y1 y4 z0 σ) := by
  unfold f227_100
  refine b_run [(100, .istore_n 3, 0, 0, .null), (101, .iinc 4 1, 0, 0, .null), (104, .goto (-44), 60, 0, .null)] (pc' := 60) (ls' := [some (.ref 1315), some (.int y1), none, some (.int z0), some (.int (y4 + 1))]) (st' := []) (by decide +kernel) rfl ?_
  exact b_wk (wS (wS (wN (wS (wS w0))))) (hk60 y1 z0 (y4 + 1) σ)
def f227_60 (F : Nat) : Nat → Int32 → Int32 → Int32 → St → Rs
  | 0, _, _, _, _ => none
  | n + 1, y1, y3, y4, σ => lt (σ.1 1315 44) fun c8 => 
    if y4 < c8 then 
    if inB y4 130 then lt (σ.1 1347 y4.toNatClampNeg) fun c9 => 
    if c9 = y1 then 
    if inB y1 130 then lt (σ.1 1343 y1.toNatClampNeg) fun c10 => cI (f232 F c10 σ) fun c12 σ11 => cI (f233 F y3 y4 c12 σ11) fun c14 σ13 => f227_100 F (f227_60 F n) y1 y4 c14 σ13 else none
    else f227_100 F (f227_60 F n) y1 y4 y3 σ else none
    else oI y3 σ
theorem s227_60 {sc : aSc} (hv : vOk sc) (F : Nat) : ∀ (n : Nat) (y1 : Int32) (y3 : Int32) (y4 : Int32) (σ : St), bEx sc 10 227 60 [some (.ref 1315), some (.int y1), none, some (.int y3), some (.int y4)] [] σ (f227_60 F n y1 y3 y4 σ) := by
  intro n
  induction n with
  | zero => intro y1 y3 y4 σ; exact b_none
  | succ n ih =>
    intro y1 y3 y4 σ
    rw [f227_60.eq_2]
    refine b_run [(60, .iload 4, 0, 0, .null), (62, .aload_n 0, 0, 0, .null)] (pc' := 63) (ls' := [some (.ref 1315), some (.int y1), none, some (.int y3), some (.int y4)]) (st' := [.ref 1315, .int y4]) (by decide +kernel) rfl ?_
    refine b_gI (q := 426) (ci := 9) (k := 44) (w := .null) (by decide +kernel) (by decide +kernel) (fun c8 => ?_)
    refine b_icF (c := .ge) (o := 41) (t := 107) (y := 0) (w := .null) (by decide +kernel) cmp_ge (fun _ => ?_) (fun _ => ?_)
    · refine b_run [(69, .aload_n 0, 0, 0, .null)] (pc' := 70) (ls' := [some (.ref 1315), some (.int y1), none, some (.int y3), some (.int y4)]) (st' := [.ref 1315]) (by decide +kernel) rfl ?_
      refine b_getC (b := 1347) (q := 105) (ci := 9) (k := 45) (w := .null) (by decide +kernel) (by decide +kernel) ?_
      refine b_run [(73, .iload 4, 0, 0, .null)] (pc' := 75) (ls' := [some (.ref 1315), some (.int y1), none, some (.int y3), some (.int y4)]) (st' := [.int y4, .ref 1347]) (by decide +kernel) rfl ?_
      refine b_guard (fun hb => ?_)
      refine b_aI (ci := 0) (y := 0) (w := .null) (by decide +kernel) (by decide +kernel) hb (fun c9 => ?_)
      refine b_run [(76, .iload_n 1, 0, 0, .null)] (pc' := 77) (ls' := [some (.ref 1315), some (.int y1), none, some (.int y3), some (.int y4)]) (st' := [.int y1, .int c9]) (by decide +kernel) rfl ?_
      refine b_icF (c := .ne) (o := 22) (t := 99) (y := 0) (w := .null) (by decide +kernel) cmp_ne (fun _ => ?_) (fun _ => ?_)
      · refine b_run [(80, .aload_n 0, 0, 0, .null), (81, .iload_n 3, 0, 0, .null), (82, .iload 4, 0, 0, .null), (84, .aload_n 0, 0, 0, .null)] (pc' := 85) (ls' := [some (.ref 1315), some (.int y1), none, some (.int y3), some (.int y4)]) (st' := [.ref 1315, .int y4, .int y3, .ref 1315]) (by decide +kernel) rfl ?_
        refine b_getC (b := 1343) (q := 93) (ci := 9) (k := 40) (w := .null) (by decide +kernel) (by decide +kernel) ?_
        refine b_run [(88, .iload_n 1, 0, 0, .null)] (pc' := 89) (ls' := [some (.ref 1315), some (.int y1), none, some (.int y3), some (.int y4)]) (st' := [.int y1, .ref 1343, .int y4, .int y3, .ref 1315]) (by decide +kernel) rfl ?_
        refine b_guard (fun hb => ?_)
        refine b_aI (ci := 0) (y := 0) (w := .null) (by decide +kernel) (by decide +kernel) hb (fun c10 => ?_)
        refine b_callI 232 1 [.int c10] (rest := [.int y4, .int y3, .ref 1315]) (by decide +kernel) rfl rfl rfl (go_S rfl (by decide +kernel)) rfl (s232 hv F c10 σ) (by decide) (fun c12 σ11 => ?_)
        refine b_callI 233 4 [.ref 1315, .int y3, .int y4, .int c12] (rest := []) (by decide +kernel) rfl rfl rfl (go_O rfl (by decide +kernel) (by decide +kernel : isO 1315 9 = true)) rfl (s233 hv F y3 y4 c12 σ11) (by decide) (fun c14 σ13 => ?_)
        refine b_run [(96, .goto 4, 100, 0, .null)] (pc' := 100) (ls' := [some (.ref 1315), some (.int y1), none, some (.int y3), some (.int y4)]) (st' := [.int c14]) (by decide +kernel) rfl ?_
        exact b_wk (wS (wS (wN (wN (wS w0))))) (s227_100 hv F (f227_60 F n) ih y1 y4 c14 σ13)
      · refine b_run [(99, .iload_n 3, 0, 0, .null)] (pc' := 100) (ls' := [some (.ref 1315), some (.int y1), none, some (.int y3), some (.int y4)]) (st' := [.int y3]) (by decide +kernel) rfl ?_
        exact b_wk (wS (wS (wN (wN (wS w0))))) (s227_100 hv F (f227_60 F n) ih y1 y4 y3 σ)
    · refine b_run [(107, .iload_n 3, 0, 0, .null)] (pc' := 108) (ls' := [some (.ref 1315), some (.int y1), none, some (.int y3), some (.int y4)]) (st' := [.int y3]) (by decide +kernel) rfl ?_
      exact b_ret (i := (.ireturn, 0, 0, .null)) (by decide +kernel) rfl rfl (fit_I _)
def f227_5 (F : Nat) : Nat → Int32 → Int32 → Int32 → Int32 → St → Rs
  | 0, _, _, _, _, _ => none
  | n + 1, y1, y2, y3, y4, σ => lt (σ.1 1315 3) fun c1 => 
    if y4 < c1 then 
    if inB y1 130 then lt (σ.1 1343 y1.toNatClampNeg) fun c2 => 
    cI (f228 F c2 y2 y4 σ) fun c4 σ3 => 
    if c4 = 0 then f227_48 F (f227_5 F n) y1 y2 y4 y3 σ3
    else cI (f231 F y1 y4 σ3) fun c7 σ6 => 
    if c7 = 0 then f227_48 F (f227_5 F n) y1 y2 y4 y3 σ6
    else f227_49 F (f227_5 F n) y1 y2 y4 y3 (1 <<< (y4 &&& 31)) σ6 else none
    else f227_60 F F y1 y3 0 σ
theorem s227_5 {sc : aSc} (hv : vOk sc) (F : Nat) : ∀ (n : Nat) (y1 : Int32) (y2 : Int32) (y3 : Int32) (y4 : Int32) (σ : St), bEx sc 10 227 5 [some (.ref 1315), some (.int y1), some (.int y2), some (.int y3), some (.int y4)] [] σ (f227_5 F n y1 y2 y3 y4 σ) := by
  intro n
  induction n with
  | zero => intro y1 y2 y3 y4 σ; exact b_none
  | succ n ih =>
    intro y1 y2 y3 y4 σ
    rw [f227_5.eq_2]
    refine b_run [(5, .iload 4, 0, 0, .null), (7, .aload_n 0, 0, 0, .null)] (pc' := 8) (ls' := [some (.ref 1315), some (.int y1), some (.int y2), some (.int y3), some (.int y4)]) (st' := [.ref 1315, .int y4]) (by decide +kernel) rfl ?_
    refine b_gI (q := 148) (ci := 9) (k := 3) (w := .null) (by decide +kernel) (by decide +kernel) (fun c1 => ?_)
    refine b_icF (c := .ge) (o := 46) (t := 57) (y := 0) (w := .null) (by decide +kernel) cmp_ge (fun _ => ?_) (fun _ => ?_)
    · refine b_run [(14, .iload_n 3, 0, 0, .null), (15, .aload_n 0, 0, 0, .null), (16, .aload_n 0, 0, 0, .null)] (pc' := 17) (ls' := [some (.ref 1315), some (.int y1), some (.int y2), some (.int y3), some (.int y4)]) (st' := [.ref 1315, .ref 1315, .int y3]) (by decide +kernel) rfl ?_
      refine b_getC (b := 1343) (q := 93) (ci := 9) (k := 40) (w := .null) (by decide +kernel) (by decide +kernel) ?_
      refine b_run [(20, .iload_n 1, 0, 0, .null)] (pc' := 21) (ls' := [some (.ref 1315), some (.int y1), some (.int y2), some (.int y3), some (.int y4)]) (st' := [.int y1, .ref 1343, .ref 1315, .int y3]) (by decide +kernel) rfl ?_
      refine b_guard (fun hb => ?_)
      refine b_aI (ci := 0) (y := 0) (w := .null) (by decide +kernel) (by decide +kernel) hb (fun c2 => ?_)
      refine b_run [(22, .iload_n 2, 0, 0, .null), (23, .iload 4, 0, 0, .null)] (pc' := 25) (ls' := [some (.ref 1315), some (.int y1), some (.int y2), some (.int y3), some (.int y4)]) (st' := [.int y4, .int y2, .int c2, .ref 1315, .int y3]) (by decide +kernel) rfl ?_
      refine b_callI 228 4 [.ref 1315, .int c2, .int y2, .int y4] (rest := [.int y3]) (by decide +kernel) rfl rfl rfl (go_O rfl (by decide +kernel) (by decide +kernel : isO 1315 9 = true)) rfl (s228 hv F c2 y2 y4 σ) (by decide) (fun c4 σ3 => ?_)
      refine b_izT (c := .eq) (o := 20) (t := 48) (y := 0) (w := .null) (by decide +kernel) cmp_eq (fun _ => ?_) (fun _ => ?_)
      · exact b_wk (wS (wS (wS (wN (wS w0))))) (s227_48 hv F (f227_5 F n) ih y1 y2 y4 y3 σ3)
      · refine b_run [(31, .aload_n 0, 0, 0, .null), (32, .iload_n 1, 0, 0, .null), (33, .iload 4, 0, 0, .null)] (pc' := 35) (ls' := [some (.ref 1315), some (.int y1), some (.int y2), some (.int y3), some (.int y4)]) (st' := [.int y4, .int y1, .ref 1315, .int y3]) (by decide +kernel) rfl ?_
        refine b_callI 231 3 [.ref 1315, .int y1, .int y4] (rest := [.int y3]) (by decide +kernel) rfl rfl rfl (go_O rfl (by decide +kernel) (by decide +kernel : isO 1315 9 = true)) rfl (s231 hv F y1 y4 σ3) (by decide) (fun c7 σ6 => ?_)
        refine b_izT (c := .eq) (o := 10) (t := 48) (y := 0) (w := .null) (by decide +kernel) cmp_eq (fun _ => ?_) (fun _ => ?_)
        · exact b_wk (wS (wS (wS (wN (wS w0))))) (s227_48 hv F (f227_5 F n) ih y1 y2 y4 y3 σ6)
        · refine b_run [(41, .iconst 1, 0, 0, .null), (42, .iload 4, 0, 0, .null), (44, .ishl, 0, 0, .null), (45, .goto 4, 49, 0, .null)] (pc' := 49) (ls' := [some (.ref 1315), some (.int y1), some (.int y2), some (.int y3), some (.int y4)]) (st' := [.int (1 <<< (y4 &&& 31)), .int y3]) (by decide +kernel) rfl ?_
          exact b_wk (wS (wS (wS (wN (wS w0))))) (s227_49 hv F (f227_5 F n) ih y1 y2 y4 y3 (1 <<< (y4 &&& 31)) σ6)
    · refine b_run [(57, .iconst 0, 0, 0, .null), (58, .istore 4, 0, 0, .null)] (pc' := 60) (ls' := [some (.ref 1315), some (.int y1), some (.int y2), some (.int y3), some (.int 0)]) (st' := []) (by decide +kernel) rfl ?_
      exact b_wk (wS (wS (wN (wS (wS w0))))) (s227_60 hv F F y1 y3 0 σ)
/-- TreeStoreModel.stepFrom(II)I -/
def f227 (F : Nat) (x1 : Int32) (x2 : Int32) (σ : St) : Rs := f227_5 F F x1 x2 0 0 σ
theorem s227 {sc : aSc} (hv : vOk sc) (F : Nat) (x1 : Int32) (x2 : Int32) (σ : St) : bEx sc 10 227 0 [some (.ref 1315), some (.int x1), some (.int x2), none, none] [] σ (f227 F x1 x2 σ) := by
  unfold f227
  refine b_run [(0, .iconst 0, 0, 0, .null), (1, .istore_n 3, 0, 0, .null), (2, .iconst 0, 0, 0, .null), (3, .istore 4, 0, 0, .null)] (pc' := 5) (ls' := [some (.ref 1315), some (.int x1), some (.int x2), some (.int 0), some (.int 0)]) (st' := []) (by decide +kernel) rfl ?_
  exact b_wk (wS (wS (wS (wS (wS w0))))) (s227_5 hv F F x1 x2 0 0 σ)
def f226_79 (F : Nat) (k20 : Int32 → Int32 → Int32 → St → Rs) (k46 : Int32 → Int32 → Int32 → Int32 → Int32 → St → Rs) (y1 : Int32) (y3 : Int32) (y4 : Int32) (y6 : Int32) (z0 : Int32) (z1 : Int32) (σ : St) : Rs := lt (z0 ||| z1) fun c7 => k46 y1 y3 y4 c7 (y6 + 1) σ
theorem s226_79 {sc : aSc} (hv : vOk sc) (F : Nat) (k20 : Int32 → Int32 → Int32 → St → Rs) (k46 : Int32 → Int32 → Int32 → Int32 → Int32 → St → Rs) (hk20 : ∀ y1 y3 y4 σ, bEx sc 11 226 20 [some (.ref 1315), some (.int y1), none, some (.int y3), some (.int y4), none, none] [] σ (k20 y1 y3 y4 σ)) (hk46 : ∀ y1 y3 y4 y5 y6 σ, bEx sc 11 226 46 [some (.ref 1315), some (.int y1), none, some (.int y3), some (.int y4), some (.int y5), some (.int y6)] [] σ (k46 y1 y3 y4 y5 y6 σ)) (y1 : Int32) (y3 : Int32) (y4 : Int32) (y6 : Int32) (z0 : Int32) (z1 : Int32) (σ : St) : bEx sc 11 226 79 [some (.ref 1315), some (.int y1), none, some (.int y3), some (.int y4), none, some (.int y6)] [.int z1, .int z0] σ (f226_79 F k20 k46 y1 y3 y4 y6 z0 z1 σ) := by
  unfold f226_79
  refine b_run [(79, .ior, 0, 0, .null), (80, .istore 5, 0, 0, .null)] (pc' := 82) (ls' := [some (.ref 1315), some (.int y1), none, some (.int y3), some (.int y4), some (.int (z0 ||| z1)), some (.int y6)]) (st' := []) (by decide +kernel) rfl ?_
  refine b_let (z0 ||| z1) (L := fun c7 => [some (.ref 1315), some (.int y1), none, some (.int y3), some (.int y4), some (.int c7), some (.int y6)]) (S := fun _ => []) (fun c7 => ?_)
  refine b_run [(82, .iinc 6 1, 0, 0, .null), (85, .goto (-39), 46, 0, .null)] (pc' := 46) (ls' := [some (.ref 1315), some (.int y1), none, some (.int y3), some (.int y4), some (.int c7), some (.int (y6 + 1))]) (st' := []) (by decide +kernel) rfl ?_
  exact b_wk (wS (wS (wN (wS (wS (wS (wS w0))))))) (hk46 y1 y3 y4 c7 (y6 + 1) σ)
def f226_91 (F : Nat) (k20 : Int32 → Int32 → Int32 → St → Rs) (y1 : Int32) (y3 : Int32) (y4 : Int32) (σ : St) : Rs := k20 y1 y3 (y4 + 1) σ
theorem s226_91 {sc : aSc} (hv : vOk sc) (F : Nat) (k20 : Int32 → Int32 → Int32 → St → Rs) (hk20 : ∀ y1 y3 y4 σ, bEx sc 11 226 20 [some (.ref 1315), some (.int y1), none, some (.int y3), some (.int y4), none, none] [] σ (k20 y1 y3 y4 σ)) (y1 : Int32) (y3 : Int32) (y4 : Int32) (σ : St) : bEx sc 11 226 91 [some (.ref 1315), some (.int y1), none, some (.int y3), some (.int y4), none, none] [] σ (f226_91 F k20 y1 y3 y4 σ) := by
  unfold f226_91
  refine b_run [(91, .iinc 4 1, 0, 0, .null), (94, .goto (-74), 20, 0, .null)] (pc' := 20) (ls' := [some (.ref 1315), some (.int y1), none, some (.int y3), some (.int (y4 + 1)), none, none]) (st' := []) (by decide +kernel) rfl ?_
  exact b_wk (wS (wS (wN (wS (wS (wN (wN w0))))))) (hk20 y1 y3 (y4 + 1) σ)
def f226_46 (F : Nat) (k20 : Int32 → Int32 → Int32 → St → Rs) : Nat → Int32 → Int32 → Int32 → Int32 → Int32 → St → Rs
  | 0, _, _, _, _, _, _ => none
  | n + 1, y1, y3, y4, y5, y6, σ => lt (σ.1 1315 3) fun c4 => 
    if y6 < c4 then 
    if (y3 >>> (y6 &&& 31)) &&& 1 = 1 then cI (f227 F y4 y6 σ) fun c6 σ5 => f226_79 F k20 (f226_46 F k20 n) y1 y3 y4 y6 y5 c6 σ5
    else f226_79 F k20 (f226_46 F k20 n) y1 y3 y4 y6 y5 0 σ
    else f226_91 F k20 y1 y5 y4 σ
theorem s226_46 {sc : aSc} (hv : vOk sc) (F : Nat) (k20 : Int32 → Int32 → Int32 → St → Rs) (hk20 : ∀ y1 y3 y4 σ, bEx sc 11 226 20 [some (.ref 1315), some (.int y1), none, some (.int y3), some (.int y4), none, none] [] σ (k20 y1 y3 y4 σ)) : ∀ (n : Nat) (y1 : Int32) (y3 : Int32) (y4 : Int32) (y5 : Int32) (y6 : Int32) (σ : St), bEx sc 11 226 46 [some (.ref 1315), some (.int y1), none, some (.int y3), some (.int y4), some (.int y5), some (.int y6)] [] σ (f226_46 F k20 n y1 y3 y4 y5 y6 σ) := by
  intro n
  induction n with
  | zero => intro y1 y3 y4 y5 y6 σ; exact b_none
  | succ n ih =>
    intro y1 y3 y4 y5 y6 σ
    rw [f226_46.eq_2]
    refine b_run [(46, .iload 6, 0, 0, .null), (48, .aload_n 0, 0, 0, .null)] (pc' := 49) (ls' := [some (.ref 1315), some (.int y1), none, some (.int y3), some (.int y4), some (.int y5), some (.int y6)]) (st' := [.ref 1315, .int y6]) (by decide +kernel) rfl ?_
    refine b_gI (q := 148) (ci := 9) (k := 3) (w := .null) (by decide +kernel) (by decide +kernel) (fun c4 => ?_)
    refine b_icF (c := .ge) (o := 36) (t := 88) (y := 0) (w := .null) (by decide +kernel) cmp_ge (fun _ => ?_) (fun _ => ?_)
    · refine b_run [(55, .iload 5, 0, 0, .null), (57, .iload_n 3, 0, 0, .null), (58, .iload 6, 0, 0, .null), (60, .ishr, 0, 0, .null), (61, .iconst 1, 0, 0, .null), (62, .iand, 0, 0, .null), (63, .iconst 1, 0, 0, .null)] (pc' := 64) (ls' := [some (.ref 1315), some (.int y1), none, some (.int y3), some (.int y4), some (.int y5), some (.int y6)]) (st' := [.int 1, .int ((y3 >>> (y6 &&& 31)) &&& 1), .int y5]) (by decide +kernel) rfl ?_
      refine b_icF (c := .ne) (o := 14) (t := 78) (y := 0) (w := .null) (by decide +kernel) cmp_ne (fun _ => ?_) (fun _ => ?_)
      · refine b_run [(67, .aload_n 0, 0, 0, .null), (68, .iload 4, 0, 0, .null), (70, .iload 6, 0, 0, .null)] (pc' := 72) (ls' := [some (.ref 1315), some (.int y1), none, some (.int y3), some (.int y4), some (.int y5), some (.int y6)]) (st' := [.int y6, .int y4, .ref 1315, .int y5]) (by decide +kernel) rfl ?_
        refine b_callI 227 3 [.ref 1315, .int y4, .int y6] (rest := [.int y5]) (by decide +kernel) rfl rfl rfl (go_O rfl (by decide +kernel) (by decide +kernel : isO 1315 9 = true)) rfl (s227 hv F y4 y6 σ) (by decide) (fun c6 σ5 => ?_)
        refine b_run [(75, .goto 4, 79, 0, .null)] (pc' := 79) (ls' := [some (.ref 1315), some (.int y1), none, some (.int y3), some (.int y4), some (.int y5), some (.int y6)]) (st' := [.int c6, .int y5]) (by decide +kernel) rfl ?_
        exact b_wk (wS (wS (wN (wS (wS (wN (wS w0))))))) (s226_79 hv F k20 (f226_46 F k20 n) hk20 ih y1 y3 y4 y6 y5 c6 σ5)
      · refine b_run [(78, .iconst 0, 0, 0, .null)] (pc' := 79) (ls' := [some (.ref 1315), some (.int y1), none, some (.int y3), some (.int y4), some (.int y5), some (.int y6)]) (st' := [.int 0, .int y5]) (by decide +kernel) rfl ?_
        exact b_wk (wS (wS (wN (wS (wS (wN (wS w0))))))) (s226_79 hv F k20 (f226_46 F k20 n) hk20 ih y1 y3 y4 y6 y5 0 σ)
    · refine b_run [(88, .iload 5, 0, 0, .null), (90, .istore_n 3, 0, 0, .null)] (pc' := 91) (ls' := [some (.ref 1315), some (.int y1), none, some (.int y5), some (.int y4), some (.int y5), some (.int y6)]) (st' := []) (by decide +kernel) rfl ?_
      exact b_wk (wS (wS (wN (wS (wS (wN (wN w0))))))) (s226_91 hv F k20 hk20 y1 y5 y4 σ)
def f226_20 (F : Nat) : Nat → Int32 → Int32 → Int32 → St → Rs
  | 0, _, _, _, _ => none
  | n + 1, y1, y3, y4, σ => lt (σ.1 1315 38) fun c2 => 
    if y4 < c2 then 
    if inB y4 130 then lt (σ.1 1342 y4.toNatClampNeg) fun c3 => 
    if c3 = y1 then f226_46 F (f226_20 F n) F y1 y3 y4 0 0 σ
    else f226_91 F (f226_20 F n) y1 y3 y4 σ else none
    else oI y3 σ
theorem s226_20 {sc : aSc} (hv : vOk sc) (F : Nat) : ∀ (n : Nat) (y1 : Int32) (y3 : Int32) (y4 : Int32) (σ : St), bEx sc 11 226 20 [some (.ref 1315), some (.int y1), none, some (.int y3), some (.int y4), none, none] [] σ (f226_20 F n y1 y3 y4 σ) := by
  intro n
  induction n with
  | zero => intro y1 y3 y4 σ; exact b_none
  | succ n ih =>
    intro y1 y3 y4 σ
    rw [f226_20.eq_2]
    refine b_run [(20, .iload 4, 0, 0, .null), (22, .aload_n 0, 0, 0, .null)] (pc' := 23) (ls' := [some (.ref 1315), some (.int y1), none, some (.int y3), some (.int y4), none, none]) (st' := [.ref 1315, .int y4]) (by decide +kernel) rfl ?_
    refine b_gI (q := 392) (ci := 9) (k := 38) (w := .null) (by decide +kernel) (by decide +kernel) (fun c2 => ?_)
    refine b_icF (c := .ge) (o := 71) (t := 97) (y := 0) (w := .null) (by decide +kernel) cmp_ge (fun _ => ?_) (fun _ => ?_)
    · refine b_run [(29, .aload_n 0, 0, 0, .null)] (pc' := 30) (ls' := [some (.ref 1315), some (.int y1), none, some (.int y3), some (.int y4), none, none]) (st' := [.ref 1315]) (by decide +kernel) rfl ?_
      refine b_getC (b := 1342) (q := 90) (ci := 9) (k := 39) (w := .null) (by decide +kernel) (by decide +kernel) ?_
      refine b_run [(33, .iload 4, 0, 0, .null)] (pc' := 35) (ls' := [some (.ref 1315), some (.int y1), none, some (.int y3), some (.int y4), none, none]) (st' := [.int y4, .ref 1342]) (by decide +kernel) rfl ?_
      refine b_guard (fun hb => ?_)
      refine b_aI (ci := 0) (y := 0) (w := .null) (by decide +kernel) (by decide +kernel) hb (fun c3 => ?_)
      refine b_run [(36, .iload_n 1, 0, 0, .null)] (pc' := 37) (ls' := [some (.ref 1315), some (.int y1), none, some (.int y3), some (.int y4), none, none]) (st' := [.int y1, .int c3]) (by decide +kernel) rfl ?_
      refine b_icF (c := .ne) (o := 54) (t := 91) (y := 0) (w := .null) (by decide +kernel) cmp_ne (fun _ => ?_) (fun _ => ?_)
      · refine b_run [(40, .iconst 0, 0, 0, .null), (41, .istore 5, 0, 0, .null), (43, .iconst 0, 0, 0, .null), (44, .istore 6, 0, 0, .null)] (pc' := 46) (ls' := [some (.ref 1315), some (.int y1), none, some (.int y3), some (.int y4), some (.int 0), some (.int 0)]) (st' := []) (by decide +kernel) rfl ?_
        exact b_wk (wS (wS (wN (wS (wS (wS (wS w0))))))) (s226_46 hv F (f226_20 F n) ih F y1 y3 y4 0 0 σ)
      · exact b_wk (wS (wS (wN (wS (wS (wN (wN w0))))))) (s226_91 hv F (f226_20 F n) ih y1 y3 y4 σ)
    · refine b_run [(97, .iload_n 3, 0, 0, .null)] (pc' := 98) (ls' := [some (.ref 1315), some (.int y1), none, some (.int y3), some (.int y4), none, none]) (st' := [.int y3]) (by decide +kernel) rfl ?_
      exact b_ret (i := (.ireturn, 0, 0, .null)) (by decide +kernel) rfl rfl (fit_I _)
def f226_16 (F : Nat) (y1 : Int32) (z0 : Int32) (σ : St) : Rs := f226_20 F F y1 z0 0 σ
theorem s226_16 {sc : aSc} (hv : vOk sc) (F : Nat) (y1 : Int32) (z0 : Int32) (σ : St) : bEx sc 11 226 16 [some (.ref 1315), some (.int y1), none, none, none, none, none] [.int z0] σ (f226_16 F y1 z0 σ) := by
  unfold f226_16
  refine b_run [(16, .istore_n 3, 0, 0, .null), (17, .iconst 0, 0, 0, .null), (18, .istore 4, 0, 0, .null)] (pc' := 20) (ls' := [some (.ref 1315), some (.int y1), none, some (.int z0), some (.int 0), none, none]) (st' := []) (by decide +kernel) rfl ?_
  exact b_wk (wS (wS (wN (wS (wS (wN (wN w0))))))) (s226_20 hv F F y1 z0 0 σ)
/-- TreeStoreModel.pathFrom(II)I -/
def f226 (F : Nat) (x1 : Int32) (x2 : Int32) (σ : St) : Rs := if inB x1 130 then lt (σ.1 1341 x1.toNatClampNeg) fun c1 => 
    if c1 = 0 then f226_16 F x1 (1 <<< (x2 &&& 31)) σ
    else f226_16 F x1 1 σ else none
theorem s226 {sc : aSc} (hv : vOk sc) (F : Nat) (x1 : Int32) (x2 : Int32) (σ : St) : bEx sc 11 226 0 [some (.ref 1315), some (.int x1), some (.int x2), none, none, none, none] [] σ (f226 F x1 x2 σ) := by
  unfold f226
  refine b_run [(0, .aload_n 0, 0, 0, .null)] (pc' := 1) (ls' := [some (.ref 1315), some (.int x1), some (.int x2), none, none, none, none]) (st' := [.ref 1315]) (by decide +kernel) rfl ?_
  refine b_getC (b := 1341) (q := 86) (ci := 9) (k := 37) (w := .null) (by decide +kernel) (by decide +kernel) ?_
  refine b_run [(4, .iload_n 1, 0, 0, .null)] (pc' := 5) (ls' := [some (.ref 1315), some (.int x1), some (.int x2), none, none, none, none]) (st' := [.int x1, .ref 1341]) (by decide +kernel) rfl ?_
  refine b_guard (fun hb => ?_)
  refine b_aZ (y := 0) (w := .null) (by decide +kernel) (by decide +kernel) hb (fun c1 => ?_)
  refine b_izT (c := .eq) (o := 7) (t := 13) (y := 0) (w := .null) (by decide +kernel) cmp_eq (fun _ => ?_) (fun _ => ?_)
  · refine b_run [(13, .iconst 1, 0, 0, .null), (14, .iload_n 2, 0, 0, .null), (15, .ishl, 0, 0, .null)] (pc' := 16) (ls' := [some (.ref 1315), some (.int x1), some (.int x2), none, none, none, none]) (st' := [.int (1 <<< (x2 &&& 31))]) (by decide +kernel) rfl ?_
    exact b_wk (wS (wS (wN (wN (wN (wN (wN w0))))))) (s226_16 hv F x1 (1 <<< (x2 &&& 31)) σ)
  · refine b_run [(9, .iconst 1, 0, 0, .null), (10, .goto 6, 16, 0, .null)] (pc' := 16) (ls' := [some (.ref 1315), some (.int x1), some (.int x2), none, none, none, none]) (st' := [.int 1]) (by decide +kernel) rfl ?_
    exact b_wk (wS (wS (wN (wN (wN (wN (wN w0))))))) (s226_16 hv F x1 1 σ)
/-- TreeStoreModel.emit(III)V -/
def f221 (F : Nat) (x1 : Int32) (x2 : Int32) (x3 : Int32) (σ : St) : Rs := lt (σ.1 1315 46) fun c1 => 
    lt (σ.1 1315 52) fun c2 => 
    if inB c2 6 then lt (σ.1 1356 c2.toNatClampNeg) fun c3 => 
    if inB c1 130 then lt (uI σ 1348 c1.toNatClampNeg c3) fun σ4 => 
    lt (σ4.1 1315 46) fun c5 => 
    if inB c5 130 then lt (uI σ4 1349 c5.toNatClampNeg x1) fun σ6 => 
    lt (σ6.1 1315 46) fun c7 => 
    if inB c7 130 then lt (uI σ6 1350 c7.toNatClampNeg x2) fun σ8 => 
    lt (σ8.1 1315 46) fun c9 => 
    if inB c9 130 then lt (uI σ8 1351 c9.toNatClampNeg x3) fun σ10 => lt (σ10.1 1315 46) fun c11 => lt (uI σ10 1315 46 (c11 + 1)) fun σ12 => oV σ12 else none else none else none else none else none
theorem s221 {sc : aSc} (hv : vOk sc) (F : Nat) (x1 : Int32) (x2 : Int32) (x3 : Int32) (σ : St) : bEx sc 0 221 0 [some (.ref 1315), some (.int x1), some (.int x2), some (.int x3)] [] σ (f221 F x1 x2 x3 σ) := by
  unfold f221
  refine b_run [(0, .aload_n 0, 0, 0, .null)] (pc' := 1) (ls' := [some (.ref 1315), some (.int x1), some (.int x2), some (.int x3)]) (st' := [.ref 1315]) (by decide +kernel) rfl ?_
  refine b_getC (b := 1348) (q := 108) (ci := 9) (k := 47) (w := .null) (by decide +kernel) (by decide +kernel) ?_
  refine b_run [(4, .aload_n 0, 0, 0, .null)] (pc' := 5) (ls' := [some (.ref 1315), some (.int x1), some (.int x2), some (.int x3)]) (st' := [.ref 1315, .ref 1348]) (by decide +kernel) rfl ?_
  refine b_gI (q := 398) (ci := 9) (k := 46) (w := .null) (by decide +kernel) (by decide +kernel) (fun c1 => ?_)
  refine b_run [(8, .aload_n 0, 0, 0, .null)] (pc' := 9) (ls' := [some (.ref 1315), some (.int x1), some (.int x2), some (.int x3)]) (st' := [.ref 1315, .int c1, .ref 1348]) (by decide +kernel) rfl ?_
  refine b_getC (b := 1356) (q := 132) (ci := 9) (k := 56) (w := .null) (by decide +kernel) (by decide +kernel) ?_
  refine b_run [(12, .aload_n 0, 0, 0, .null)] (pc' := 13) (ls' := [some (.ref 1315), some (.int x1), some (.int x2), some (.int x3)]) (st' := [.ref 1315, .ref 1356, .int c1, .ref 1348]) (by decide +kernel) rfl ?_
  refine b_gI (q := 395) (ci := 9) (k := 52) (w := .null) (by decide +kernel) (by decide +kernel) (fun c2 => ?_)
  refine b_guard (fun hb => ?_)
  refine b_aI (ci := 0) (y := 0) (w := .null) (by decide +kernel) (by decide +kernel) hb (fun c3 => ?_)
  refine b_guard (fun hb => ?_)
  refine b_sI (ci := 0) (y := 0) (w := .null) (by decide +kernel) (by decide +kernel) hb (fun σ4 => ?_)
  refine b_run [(18, .aload_n 0, 0, 0, .null)] (pc' := 19) (ls' := [some (.ref 1315), some (.int x1), some (.int x2), some (.int x3)]) (st' := [.ref 1315]) (by decide +kernel) rfl ?_
  refine b_getC (b := 1349) (q := 111) (ci := 9) (k := 48) (w := .null) (by decide +kernel) (by decide +kernel) ?_
  refine b_run [(22, .aload_n 0, 0, 0, .null)] (pc' := 23) (ls' := [some (.ref 1315), some (.int x1), some (.int x2), some (.int x3)]) (st' := [.ref 1315, .ref 1349]) (by decide +kernel) rfl ?_
  refine b_gI (q := 398) (ci := 9) (k := 46) (w := .null) (by decide +kernel) (by decide +kernel) (fun c5 => ?_)
  refine b_run [(26, .iload_n 1, 0, 0, .null)] (pc' := 27) (ls' := [some (.ref 1315), some (.int x1), some (.int x2), some (.int x3)]) (st' := [.int x1, .int c5, .ref 1349]) (by decide +kernel) rfl ?_
  refine b_guard (fun hb => ?_)
  refine b_sI (ci := 0) (y := 0) (w := .null) (by decide +kernel) (by decide +kernel) hb (fun σ6 => ?_)
  refine b_run [(28, .aload_n 0, 0, 0, .null)] (pc' := 29) (ls' := [some (.ref 1315), some (.int x1), some (.int x2), some (.int x3)]) (st' := [.ref 1315]) (by decide +kernel) rfl ?_
  refine b_getC (b := 1350) (q := 114) (ci := 9) (k := 49) (w := .null) (by decide +kernel) (by decide +kernel) ?_
  refine b_run [(32, .aload_n 0, 0, 0, .null)] (pc' := 33) (ls' := [some (.ref 1315), some (.int x1), some (.int x2), some (.int x3)]) (st' := [.ref 1315, .ref 1350]) (by decide +kernel) rfl ?_
  refine b_gI (q := 398) (ci := 9) (k := 46) (w := .null) (by decide +kernel) (by decide +kernel) (fun c7 => ?_)
  refine b_run [(36, .iload_n 2, 0, 0, .null)] (pc' := 37) (ls' := [some (.ref 1315), some (.int x1), some (.int x2), some (.int x3)]) (st' := [.int x2, .int c7, .ref 1350]) (by decide +kernel) rfl ?_
  refine b_guard (fun hb => ?_)
  refine b_sI (ci := 0) (y := 0) (w := .null) (by decide +kernel) (by decide +kernel) hb (fun σ8 => ?_)
  refine b_run [(38, .aload_n 0, 0, 0, .null)] (pc' := 39) (ls' := [some (.ref 1315), some (.int x1), some (.int x2), some (.int x3)]) (st' := [.ref 1315]) (by decide +kernel) rfl ?_
  refine b_getC (b := 1351) (q := 117) (ci := 9) (k := 50) (w := .null) (by decide +kernel) (by decide +kernel) ?_
  refine b_run [(42, .aload_n 0, 0, 0, .null)] (pc' := 43) (ls' := [some (.ref 1315), some (.int x1), some (.int x2), some (.int x3)]) (st' := [.ref 1315, .ref 1351]) (by decide +kernel) rfl ?_
  refine b_gI (q := 398) (ci := 9) (k := 46) (w := .null) (by decide +kernel) (by decide +kernel) (fun c9 => ?_)
  refine b_run [(46, .iload_n 3, 0, 0, .null)] (pc' := 47) (ls' := [some (.ref 1315), some (.int x1), some (.int x2), some (.int x3)]) (st' := [.int x3, .int c9, .ref 1351]) (by decide +kernel) rfl ?_
  refine b_guard (fun hb => ?_)
  refine b_sI (ci := 0) (y := 0) (w := .null) (by decide +kernel) (by decide +kernel) hb (fun σ10 => ?_)
  refine b_run [(48, .aload_n 0, 0, 0, .null), (49, .dup, 0, 0, .null)] (pc' := 50) (ls' := [some (.ref 1315), some (.int x1), some (.int x2), some (.int x3)]) (st' := [.ref 1315, .ref 1315]) (by decide +kernel) rfl ?_
  refine b_gI (q := 398) (ci := 9) (k := 46) (w := .null) (by decide +kernel) (by decide +kernel) (fun c11 => ?_)
  refine b_run [(53, .iconst 1, 0, 0, .null), (54, .iadd, 0, 0, .null)] (pc' := 55) (ls' := [some (.ref 1315), some (.int x1), some (.int x2), some (.int x3)]) (st' := [.int (c11 + 1), .ref 1315]) (by decide +kernel) rfl ?_
  refine b_pI (q := 398) (ci := 9) (k := 46) (w := .null) (by decide +kernel) (by decide +kernel) (fit_I _) (fun σ12 => ?_)
  exact b_ret0 (i := (.return_, 0, 0, .null)) (by decide +kernel) rfl rfl
def f225_58 (F : Nat) (y1 : Int32) (σ : St) : Rs := lt (σ.1 1315 32) fun c6 => 
    lt (uI σ 1315 32 (c6 + 1)) fun σ7 => 
    lt (σ7.1 1315 52) fun c8 => 
    if y1 = 43 then if inB c8 6 then lt (uI σ7 1357 c8.toNatClampNeg 7) fun σ9 => oI 6 σ9 else none
    else if inB c8 6 then lt (uI σ7 1357 c8.toNatClampNeg 8) fun σ10 => oI 6 σ10 else none
theorem s225_58 {sc : aSc} (hv : vOk sc) (F : Nat) (y1 : Int32) (σ : St) : bEx sc 1 225 58 [some (.ref 1315), some (.int y1), none, none] [] σ (f225_58 F y1 σ) := by
  unfold f225_58
  refine b_run [(58, .aload_n 0, 0, 0, .null), (59, .dup, 0, 0, .null)] (pc' := 60) (ls' := [some (.ref 1315), some (.int y1), none, none]) (st' := [.ref 1315, .ref 1315]) (by decide +kernel) rfl ?_
  refine b_gI (q := 181) (ci := 9) (k := 32) (w := .null) (by decide +kernel) (by decide +kernel) (fun c6 => ?_)
  refine b_run [(63, .iconst 1, 0, 0, .null), (64, .iadd, 0, 0, .null)] (pc' := 65) (ls' := [some (.ref 1315), some (.int y1), none, none]) (st' := [.int (c6 + 1), .ref 1315]) (by decide +kernel) rfl ?_
  refine b_pI (q := 181) (ci := 9) (k := 32) (w := .null) (by decide +kernel) (by decide +kernel) (fit_I _) (fun σ7 => ?_)
  refine b_run [(68, .aload_n 0, 0, 0, .null)] (pc' := 69) (ls' := [some (.ref 1315), some (.int y1), none, none]) (st' := [.ref 1315]) (by decide +kernel) rfl ?_
  refine b_getC (b := 1357) (q := 135) (ci := 9) (k := 57) (w := .null) (by decide +kernel) (by decide +kernel) ?_
  refine b_run [(72, .aload_n 0, 0, 0, .null)] (pc' := 73) (ls' := [some (.ref 1315), some (.int y1), none, none]) (st' := [.ref 1315, .ref 1357]) (by decide +kernel) rfl ?_
  refine b_gI (q := 395) (ci := 9) (k := 52) (w := .null) (by decide +kernel) (by decide +kernel) (fun c8 => ?_)
  refine b_run [(76, .iload_n 1, 0, 0, .null), (77, .bipush 43, 0, 0, .null)] (pc' := 79) (ls' := [some (.ref 1315), some (.int y1), none, none]) (st' := [.int 43, .int y1, .int c8, .ref 1357]) (by decide +kernel) rfl ?_
  refine b_icF (c := .ne) (o := 8) (t := 87) (y := 0) (w := .null) (by decide +kernel) cmp_ne (fun _ => ?_) (fun _ => ?_)
  · refine b_run [(82, .bipush 7, 0, 0, .null), (84, .goto 5, 89, 0, .null)] (pc' := 89) (ls' := [some (.ref 1315), some (.int y1), none, none]) (st' := [.int 7, .int c8, .ref 1357]) (by decide +kernel) rfl ?_
    refine b_guard (fun hb => ?_)
    refine b_sI (ci := 0) (y := 0) (w := .null) (by decide +kernel) (by decide +kernel) hb (fun σ9 => ?_)
    refine b_run [(90, .bipush 6, 0, 0, .null)] (pc' := 92) (ls' := [some (.ref 1315), some (.int y1), none, none]) (st' := [.int 6]) (by decide +kernel) rfl ?_
    exact b_ret (i := (.ireturn, 0, 0, .null)) (by decide +kernel) rfl rfl (fit_I _)
  · refine b_run [(87, .bipush 8, 0, 0, .null)] (pc' := 89) (ls' := [some (.ref 1315), some (.int y1), none, none]) (st' := [.int 8, .int c8, .ref 1357]) (by decide +kernel) rfl ?_
    refine b_guard (fun hb => ?_)
    refine b_sI (ci := 0) (y := 0) (w := .null) (by decide +kernel) (by decide +kernel) hb (fun σ10 => ?_)
    refine b_run [(90, .bipush 6, 0, 0, .null)] (pc' := 92) (ls' := [some (.ref 1315), some (.int y1), none, none]) (st' := [.int 6]) (by decide +kernel) rfl ?_
    exact b_ret (i := (.ireturn, 0, 0, .null)) (by decide +kernel) rfl rfl (fit_I _)
def f225_168 (F : Nat) (y1 : Int32) (y2 : Int32) (z1 : Int32) (z2 : Int32) (σ : St) : Rs := lt (uI σ 1315 32 (z1 + z2)) fun σ17 => 
    lt (σ17.1 1315 52) fun c18 => 
    if y2 = 0 then 
    if y1 = 61 then if inB c18 6 then lt (uI σ17 1358 c18.toNatClampNeg 9) fun σ19 => oI 6 σ19 else none
    else if y1 = 60 then if inB c18 6 then lt (uI σ17 1358 c18.toNatClampNeg 11) fun σ20 => oI 6 σ20 else none
    else if inB c18 6 then lt (uI σ17 1358 c18.toNatClampNeg 12) fun σ21 => oI 6 σ21 else none
    else if inB c18 6 then lt (uI σ17 1358 c18.toNatClampNeg 10) fun σ22 => oI 6 σ22 else none
theorem s225_168 {sc : aSc} (hv : vOk sc) (F : Nat) (y1 : Int32) (y2 : Int32) (z1 : Int32) (z2 : Int32) (σ : St) : bEx sc 1 225 168 [some (.ref 1315), some (.int y1), some (.int y2), none] [.int z2, .int z1, .ref 1315] σ (f225_168 F y1 y2 z1 z2 σ) := by
  unfold f225_168
  refine b_run [(168, .iadd, 0, 0, .null)] (pc' := 169) (ls' := [some (.ref 1315), some (.int y1), some (.int y2), none]) (st' := [.int (z1 + z2), .ref 1315]) (by decide +kernel) rfl ?_
  refine b_pI (q := 181) (ci := 9) (k := 32) (w := .null) (by decide +kernel) (by decide +kernel) (fit_I _) (fun σ17 => ?_)
  refine b_run [(172, .aload_n 0, 0, 0, .null)] (pc' := 173) (ls' := [some (.ref 1315), some (.int y1), some (.int y2), none]) (st' := [.ref 1315]) (by decide +kernel) rfl ?_
  refine b_getC (b := 1358) (q := 138) (ci := 9) (k := 58) (w := .null) (by decide +kernel) (by decide +kernel) ?_
  refine b_run [(176, .aload_n 0, 0, 0, .null)] (pc' := 177) (ls' := [some (.ref 1315), some (.int y1), some (.int y2), none]) (st' := [.ref 1315, .ref 1358]) (by decide +kernel) rfl ?_
  refine b_gI (q := 395) (ci := 9) (k := 52) (w := .null) (by decide +kernel) (by decide +kernel) (fun c18 => ?_)
  refine b_run [(180, .iload_n 2, 0, 0, .null)] (pc' := 181) (ls' := [some (.ref 1315), some (.int y1), some (.int y2), none]) (st' := [.int y2, .int c18, .ref 1358]) (by decide +kernel) rfl ?_
  refine b_izT (c := .eq) (o := 8) (t := 189) (y := 0) (w := .null) (by decide +kernel) cmp_eq (fun _ => ?_) (fun _ => ?_)
  · refine b_run [(189, .iload_n 1, 0, 0, .null), (190, .bipush 61, 0, 0, .null)] (pc' := 192) (ls' := [some (.ref 1315), some (.int y1), some (.int y2), none]) (st' := [.int 61, .int y1, .int c18, .ref 1358]) (by decide +kernel) rfl ?_
    refine b_icF (c := .ne) (o := 8) (t := 200) (y := 0) (w := .null) (by decide +kernel) cmp_ne (fun _ => ?_) (fun _ => ?_)
    · refine b_run [(195, .bipush 9, 0, 0, .null), (197, .goto 16, 213, 0, .null)] (pc' := 213) (ls' := [some (.ref 1315), some (.int y1), some (.int y2), none]) (st' := [.int 9, .int c18, .ref 1358]) (by decide +kernel) rfl ?_
      refine b_guard (fun hb => ?_)
      refine b_sI (ci := 0) (y := 0) (w := .null) (by decide +kernel) (by decide +kernel) hb (fun σ19 => ?_)
      refine b_run [(214, .bipush 6, 0, 0, .null)] (pc' := 216) (ls' := [some (.ref 1315), some (.int y1), some (.int y2), none]) (st' := [.int 6]) (by decide +kernel) rfl ?_
      exact b_ret (i := (.ireturn, 0, 0, .null)) (by decide +kernel) rfl rfl (fit_I _)
    · refine b_run [(200, .iload_n 1, 0, 0, .null), (201, .bipush 60, 0, 0, .null)] (pc' := 203) (ls' := [some (.ref 1315), some (.int y1), some (.int y2), none]) (st' := [.int 60, .int y1, .int c18, .ref 1358]) (by decide +kernel) rfl ?_
      refine b_icF (c := .ne) (o := 8) (t := 211) (y := 0) (w := .null) (by decide +kernel) cmp_ne (fun _ => ?_) (fun _ => ?_)
      · refine b_run [(206, .bipush 11, 0, 0, .null), (208, .goto 5, 213, 0, .null)] (pc' := 213) (ls' := [some (.ref 1315), some (.int y1), some (.int y2), none]) (st' := [.int 11, .int c18, .ref 1358]) (by decide +kernel) rfl ?_
        refine b_guard (fun hb => ?_)
        refine b_sI (ci := 0) (y := 0) (w := .null) (by decide +kernel) (by decide +kernel) hb (fun σ20 => ?_)
        refine b_run [(214, .bipush 6, 0, 0, .null)] (pc' := 216) (ls' := [some (.ref 1315), some (.int y1), some (.int y2), none]) (st' := [.int 6]) (by decide +kernel) rfl ?_
        exact b_ret (i := (.ireturn, 0, 0, .null)) (by decide +kernel) rfl rfl (fit_I _)
      · refine b_run [(211, .bipush 12, 0, 0, .null)] (pc' := 213) (ls' := [some (.ref 1315), some (.int y1), some (.int y2), none]) (st' := [.int 12, .int c18, .ref 1358]) (by decide +kernel) rfl ?_
        refine b_guard (fun hb => ?_)
        refine b_sI (ci := 0) (y := 0) (w := .null) (by decide +kernel) (by decide +kernel) hb (fun σ21 => ?_)
        refine b_run [(214, .bipush 6, 0, 0, .null)] (pc' := 216) (ls' := [some (.ref 1315), some (.int y1), some (.int y2), none]) (st' := [.int 6]) (by decide +kernel) rfl ?_
        exact b_ret (i := (.ireturn, 0, 0, .null)) (by decide +kernel) rfl rfl (fit_I _)
  · refine b_run [(184, .bipush 10, 0, 0, .null), (186, .goto 27, 213, 0, .null)] (pc' := 213) (ls' := [some (.ref 1315), some (.int y1), some (.int y2), none]) (st' := [.int 10, .int c18, .ref 1358]) (by decide +kernel) rfl ?_
    refine b_guard (fun hb => ?_)
    refine b_sI (ci := 0) (y := 0) (w := .null) (by decide +kernel) (by decide +kernel) hb (fun σ22 => ?_)
    refine b_run [(214, .bipush 6, 0, 0, .null)] (pc' := 216) (ls' := [some (.ref 1315), some (.int y1), some (.int y2), none]) (st' := [.int 6]) (by decide +kernel) rfl ?_
    exact b_ret (i := (.ireturn, 0, 0, .null)) (by decide +kernel) rfl rfl (fit_I _)
def f225_154 (F : Nat) (y1 : Int32) (y2 : Int32) (σ : St) : Rs := lt (σ.1 1315 32) fun c16 => 
    if y2 = 0 then f225_168 F y1 y2 c16 1 σ
    else f225_168 F y1 y2 c16 2 σ
theorem s225_154 {sc : aSc} (hv : vOk sc) (F : Nat) (y1 : Int32) (y2 : Int32) (σ : St) : bEx sc 1 225 154 [some (.ref 1315), some (.int y1), some (.int y2), none] [] σ (f225_154 F y1 y2 σ) := by
  unfold f225_154
  refine b_run [(154, .aload_n 0, 0, 0, .null), (155, .dup, 0, 0, .null)] (pc' := 156) (ls' := [some (.ref 1315), some (.int y1), some (.int y2), none]) (st' := [.ref 1315, .ref 1315]) (by decide +kernel) rfl ?_
  refine b_gI (q := 181) (ci := 9) (k := 32) (w := .null) (by decide +kernel) (by decide +kernel) (fun c16 => ?_)
  refine b_run [(159, .iload_n 2, 0, 0, .null)] (pc' := 160) (ls' := [some (.ref 1315), some (.int y1), some (.int y2), none]) (st' := [.int y2, .int c16, .ref 1315]) (by decide +kernel) rfl ?_
  refine b_izT (c := .eq) (o := 7) (t := 167) (y := 0) (w := .null) (by decide +kernel) cmp_eq (fun _ => ?_) (fun _ => ?_)
  · refine b_run [(167, .iconst 1, 0, 0, .null)] (pc' := 168) (ls' := [some (.ref 1315), some (.int y1), some (.int y2), none]) (st' := [.int 1, .int c16, .ref 1315]) (by decide +kernel) rfl ?_
    exact b_wk (wS (wS (wS (wN w0)))) (s225_168 hv F y1 y2 c16 1 σ)
  · refine b_run [(163, .iconst 2, 0, 0, .null), (164, .goto 4, 168, 0, .null)] (pc' := 168) (ls' := [some (.ref 1315), some (.int y1), some (.int y2), none]) (st' := [.int 2, .int c16, .ref 1315]) (by decide +kernel) rfl ?_
    exact b_wk (wS (wS (wS (wN w0)))) (s225_168 hv F y1 y2 c16 2 σ)
def f225_299 (F : Nat) (z0 : Int32) (σ : St) : Rs := lt (σ.1 1315 52) fun c31 => 
    lt (uI σ 1315 52 (c31 - 1)) fun σ32 => 
    if z0 = 0 then cV (f221 F 6 0 0 σ32) fun σ33 => oI 7 σ33
    else oI 3 σ32
theorem s225_299 {sc : aSc} (hv : vOk sc) (F : Nat) (z0 : Int32) (σ : St) : bEx sc 1 225 299 [some (.ref 1315), none, none, none] [.int z0] σ (f225_299 F z0 σ) := by
  unfold f225_299
  refine b_run [(299, .istore_n 3, 0, 0, .null), (300, .aload_n 0, 0, 0, .null), (301, .dup, 0, 0, .null)] (pc' := 302) (ls' := [some (.ref 1315), none, none, some (.int z0)]) (st' := [.ref 1315, .ref 1315]) (by decide +kernel) rfl ?_
  refine b_gI (q := 395) (ci := 9) (k := 52) (w := .null) (by decide +kernel) (by decide +kernel) (fun c31 => ?_)
  refine b_run [(305, .iconst 1, 0, 0, .null), (306, .isub, 0, 0, .null)] (pc' := 307) (ls' := [some (.ref 1315), none, none, some (.int z0)]) (st' := [.int (c31 - 1), .ref 1315]) (by decide +kernel) rfl ?_
  refine b_pI (q := 395) (ci := 9) (k := 52) (w := .null) (by decide +kernel) (by decide +kernel) (fit_I _) (fun σ32 => ?_)
  refine b_run [(310, .iload_n 3, 0, 0, .null)] (pc' := 311) (ls' := [some (.ref 1315), none, none, some (.int z0)]) (st' := [.int z0]) (by decide +kernel) rfl ?_
  refine b_izT (c := .eq) (o := 5) (t := 316) (y := 0) (w := .null) (by decide +kernel) cmp_eq (fun _ => ?_) (fun _ => ?_)
  · refine b_run [(316, .aload_n 0, 0, 0, .null), (317, .bipush 6, 0, 0, .null), (319, .iconst 0, 0, 0, .null), (320, .iconst 0, 0, 0, .null)] (pc' := 321) (ls' := [some (.ref 1315), none, none, some (.int z0)]) (st' := [.int 0, .int 0, .int 6, .ref 1315]) (by decide +kernel) rfl ?_
    refine b_callV 221 4 [.ref 1315, .int 6, .int 0, .int 0] (rest := []) (by decide +kernel) rfl rfl rfl (go_O rfl (by decide +kernel) (by decide +kernel : isO 1315 9 = true)) rfl (s221 hv F 6 0 0 σ32) (by decide) (fun σ33 => ?_)
    refine b_run [(324, .bipush 7, 0, 0, .null)] (pc' := 326) (ls' := [some (.ref 1315), none, none, some (.int z0)]) (st' := [.int 7]) (by decide +kernel) rfl ?_
    exact b_ret (i := (.ireturn, 0, 0, .null)) (by decide +kernel) rfl rfl (fit_I _)
  · refine b_run [(314, .iconst 3, 0, 0, .null)] (pc' := 315) (ls' := [some (.ref 1315), none, none, some (.int z0)]) (st' := [.int 3]) (by decide +kernel) rfl ?_
    exact b_ret (i := (.ireturn, 0, 0, .null)) (by decide +kernel) rfl rfl (fit_I _)
def f225_265 (F : Nat) (z0 : Int32) (z1 : Int32) (σ : St) : Rs := if z0 = z1 then 
    lt (σ.1 1315 32) fun c27 => 
    lt (uI σ 1315 32 (c27 + 1)) fun σ28 => 
    lt (σ28.1 1315 52) fun c29 => 
    if inB c29 6 then lt (σ28.1 1353 c29.toNatClampNeg) fun c30 => 
    if c30 = 1 then f225_299 F 1 σ28
    else f225_299 F 0 σ28 else none
    else oI 8 σ
theorem s225_265 {sc : aSc} (hv : vOk sc) (F : Nat) (z0 : Int32) (z1 : Int32) (σ : St) : bEx sc 1 225 265 [some (.ref 1315), none, none, none] [.int z1, .int z0] σ (f225_265 F z0 z1 σ) := by
  unfold f225_265
  refine b_icT (c := .eq) (o := 6) (t := 271) (y := 0) (w := .null) (by decide +kernel) cmp_eq (fun _ => ?_) (fun _ => ?_)
  · refine b_run [(271, .aload_n 0, 0, 0, .null), (272, .dup, 0, 0, .null)] (pc' := 273) (ls' := [some (.ref 1315), none, none, none]) (st' := [.ref 1315, .ref 1315]) (by decide +kernel) rfl ?_
    refine b_gI (q := 181) (ci := 9) (k := 32) (w := .null) (by decide +kernel) (by decide +kernel) (fun c27 => ?_)
    refine b_run [(276, .iconst 1, 0, 0, .null), (277, .iadd, 0, 0, .null)] (pc' := 278) (ls' := [some (.ref 1315), none, none, none]) (st' := [.int (c27 + 1), .ref 1315]) (by decide +kernel) rfl ?_
    refine b_pI (q := 181) (ci := 9) (k := 32) (w := .null) (by decide +kernel) (by decide +kernel) (fit_I _) (fun σ28 => ?_)
    refine b_run [(281, .aload_n 0, 0, 0, .null)] (pc' := 282) (ls' := [some (.ref 1315), none, none, none]) (st' := [.ref 1315]) (by decide +kernel) rfl ?_
    refine b_getC (b := 1353) (q := 123) (ci := 9) (k := 53) (w := .null) (by decide +kernel) (by decide +kernel) ?_
    refine b_run [(285, .aload_n 0, 0, 0, .null)] (pc' := 286) (ls' := [some (.ref 1315), none, none, none]) (st' := [.ref 1315, .ref 1353]) (by decide +kernel) rfl ?_
    refine b_gI (q := 395) (ci := 9) (k := 52) (w := .null) (by decide +kernel) (by decide +kernel) (fun c29 => ?_)
    refine b_guard (fun hb => ?_)
    refine b_aI (ci := 0) (y := 0) (w := .null) (by decide +kernel) (by decide +kernel) hb (fun c30 => ?_)
    refine b_run [(290, .iconst 1, 0, 0, .null)] (pc' := 291) (ls' := [some (.ref 1315), none, none, none]) (st' := [.int 1, .int c30]) (by decide +kernel) rfl ?_
    refine b_icF (c := .ne) (o := 7) (t := 298) (y := 0) (w := .null) (by decide +kernel) cmp_ne (fun _ => ?_) (fun _ => ?_)
    · refine b_run [(294, .iconst 1, 0, 0, .null), (295, .goto 4, 299, 0, .null)] (pc' := 299) (ls' := [some (.ref 1315), none, none, none]) (st' := [.int 1]) (by decide +kernel) rfl ?_
      exact b_wk (wS (wN (wN (wN w0)))) (s225_299 hv F 1 σ28)
    · refine b_run [(298, .iconst 0, 0, 0, .null)] (pc' := 299) (ls' := [some (.ref 1315), none, none, none]) (st' := [.int 0]) (by decide +kernel) rfl ?_
      exact b_wk (wS (wN (wN (wN w0)))) (s225_299 hv F 0 σ28)
  · refine b_run [(268, .bipush 8, 0, 0, .null)] (pc' := 270) (ls' := [some (.ref 1315), none, none, none]) (st' := [.int 8]) (by decide +kernel) rfl ?_
    exact b_ret (i := (.ireturn, 0, 0, .null)) (by decide +kernel) rfl rfl (fit_I _)
def f225_244 (F : Nat) (y1 : Int32) (σ : St) : Rs := lt (σ.1 1315 52) fun c25 => 
    if inB c25 6 then lt (σ.1 1353 c25.toNatClampNeg) fun c26 => 
    if c26 = 1 then f225_265 F y1 93 σ
    else f225_265 F y1 41 σ else none
theorem s225_244 {sc : aSc} (hv : vOk sc) (F : Nat) (y1 : Int32) (σ : St) : bEx sc 1 225 244 [some (.ref 1315), some (.int y1), none, none] [] σ (f225_244 F y1 σ) := by
  unfold f225_244
  refine b_run [(244, .iload_n 1, 0, 0, .null), (245, .aload_n 0, 0, 0, .null)] (pc' := 246) (ls' := [some (.ref 1315), some (.int y1), none, none]) (st' := [.ref 1315, .int y1]) (by decide +kernel) rfl ?_
  refine b_getC (b := 1353) (q := 123) (ci := 9) (k := 53) (w := .null) (by decide +kernel) (by decide +kernel) ?_
  refine b_run [(249, .aload_n 0, 0, 0, .null)] (pc' := 250) (ls' := [some (.ref 1315), some (.int y1), none, none]) (st' := [.ref 1315, .ref 1353, .int y1]) (by decide +kernel) rfl ?_
  refine b_gI (q := 395) (ci := 9) (k := 52) (w := .null) (by decide +kernel) (by decide +kernel) (fun c25 => ?_)
  refine b_guard (fun hb => ?_)
  refine b_aI (ci := 0) (y := 0) (w := .null) (by decide +kernel) (by decide +kernel) hb (fun c26 => ?_)
  refine b_run [(254, .iconst 1, 0, 0, .null)] (pc' := 255) (ls' := [some (.ref 1315), some (.int y1), none, none]) (st' := [.int 1, .int c26, .int y1]) (by decide +kernel) rfl ?_
  refine b_icF (c := .ne) (o := 8) (t := 263) (y := 0) (w := .null) (by decide +kernel) cmp_ne (fun _ => ?_) (fun _ => ?_)
  · refine b_run [(258, .bipush 93, 0, 0, .null), (260, .goto 5, 265, 0, .null)] (pc' := 265) (ls' := [some (.ref 1315), some (.int y1), none, none]) (st' := [.int 93, .int y1]) (by decide +kernel) rfl ?_
    exact b_wk (wS (wN (wN (wN w0)))) (s225_265 hv F y1 93 σ)
  · refine b_run [(263, .bipush 41, 0, 0, .null)] (pc' := 265) (ls' := [some (.ref 1315), some (.int y1), none, none]) (st' := [.int 41, .int y1]) (by decide +kernel) rfl ?_
    exact b_wk (wS (wN (wN (wN w0)))) (s225_265 hv F y1 41 σ)
def f225_217 (F : Nat) (y1 : Int32) (σ : St) : Rs := lt (σ.1 1315 52) fun c23 => 
    if inB c23 6 then lt (σ.1 1358 c23.toNatClampNeg) fun c24 => 
    if c24 = 0 then f225_244 F y1 σ
    else lt (σ.1 1315 52) fun c35 => 
    if inB c35 6 then lt (σ.1 1358 c35.toNatClampNeg) fun c36 => cV (f221 F c36 0 0 σ) fun σ37 => f225_244 F y1 σ37 else none else none
theorem s225_217 {sc : aSc} (hv : vOk sc) (F : Nat) (y1 : Int32) (σ : St) : bEx sc 1 225 217 [some (.ref 1315), some (.int y1), none, none] [] σ (f225_217 F y1 σ) := by
  unfold f225_217
  refine b_run [(217, .aload_n 0, 0, 0, .null)] (pc' := 218) (ls' := [some (.ref 1315), some (.int y1), none, none]) (st' := [.ref 1315]) (by decide +kernel) rfl ?_
  refine b_getC (b := 1358) (q := 138) (ci := 9) (k := 58) (w := .null) (by decide +kernel) (by decide +kernel) ?_
  refine b_run [(221, .aload_n 0, 0, 0, .null)] (pc' := 222) (ls' := [some (.ref 1315), some (.int y1), none, none]) (st' := [.ref 1315, .ref 1358]) (by decide +kernel) rfl ?_
  refine b_gI (q := 395) (ci := 9) (k := 52) (w := .null) (by decide +kernel) (by decide +kernel) (fun c23 => ?_)
  refine b_guard (fun hb => ?_)
  refine b_aI (ci := 0) (y := 0) (w := .null) (by decide +kernel) (by decide +kernel) hb (fun c24 => ?_)
  refine b_izT (c := .eq) (o := 18) (t := 244) (y := 0) (w := .null) (by decide +kernel) cmp_eq (fun _ => ?_) (fun _ => ?_)
  · exact b_wk (wS (wS (wN (wN w0)))) (s225_244 hv F y1 σ)
  · refine b_run [(229, .aload_n 0, 0, 0, .null), (230, .aload_n 0, 0, 0, .null)] (pc' := 231) (ls' := [some (.ref 1315), some (.int y1), none, none]) (st' := [.ref 1315, .ref 1315]) (by decide +kernel) rfl ?_
    refine b_getC (b := 1358) (q := 138) (ci := 9) (k := 58) (w := .null) (by decide +kernel) (by decide +kernel) ?_
    refine b_run [(234, .aload_n 0, 0, 0, .null)] (pc' := 235) (ls' := [some (.ref 1315), some (.int y1), none, none]) (st' := [.ref 1315, .ref 1358, .ref 1315]) (by decide +kernel) rfl ?_
    refine b_gI (q := 395) (ci := 9) (k := 52) (w := .null) (by decide +kernel) (by decide +kernel) (fun c35 => ?_)
    refine b_guard (fun hb => ?_)
    refine b_aI (ci := 0) (y := 0) (w := .null) (by decide +kernel) (by decide +kernel) hb (fun c36 => ?_)
    refine b_run [(239, .iconst 0, 0, 0, .null), (240, .iconst 0, 0, 0, .null)] (pc' := 241) (ls' := [some (.ref 1315), some (.int y1), none, none]) (st' := [.int 0, .int 0, .int c36, .ref 1315]) (by decide +kernel) rfl ?_
    refine b_callV 221 4 [.ref 1315, .int c36, .int 0, .int 0] (rest := []) (by decide +kernel) rfl rfl rfl (go_O rfl (by decide +kernel) (by decide +kernel : isO 1315 9 = true)) rfl (s221 hv F c36 0 0 σ) (by decide) (fun σ37 => ?_)
    exact b_wk (wS (wS (wN (wN w0)))) (s225_244 hv F y1 σ37)
def f225_119 (F : Nat) (y1 : Int32) (z0 : Int32) (σ : St) : Rs := lt (σ.1 1315 52) fun c14 => 
    if inB c14 6 then lt (σ.1 1358 c14.toNatClampNeg) fun c15 => 
    if c15 = 0 then 
    if y1 = 61 then f225_154 F y1 z0 σ
    else if y1 = 60 then f225_154 F y1 z0 σ
    else if y1 = 62 then f225_154 F y1 z0 σ
    else if z0 = 0 then f225_217 F y1 σ
    else f225_154 F y1 z0 σ
    else f225_217 F y1 σ else none
theorem s225_119 {sc : aSc} (hv : vOk sc) (F : Nat) (y1 : Int32) (z0 : Int32) (σ : St) : bEx sc 1 225 119 [some (.ref 1315), some (.int y1), none, none] [.int z0] σ (f225_119 F y1 z0 σ) := by
  unfold f225_119
  refine b_run [(119, .istore_n 2, 0, 0, .null), (120, .aload_n 0, 0, 0, .null)] (pc' := 121) (ls' := [some (.ref 1315), some (.int y1), some (.int z0), none]) (st' := [.ref 1315]) (by decide +kernel) rfl ?_
  refine b_getC (b := 1358) (q := 138) (ci := 9) (k := 58) (w := .null) (by decide +kernel) (by decide +kernel) ?_
  refine b_run [(124, .aload_n 0, 0, 0, .null)] (pc' := 125) (ls' := [some (.ref 1315), some (.int y1), some (.int z0), none]) (st' := [.ref 1315, .ref 1358]) (by decide +kernel) rfl ?_
  refine b_gI (q := 395) (ci := 9) (k := 52) (w := .null) (by decide +kernel) (by decide +kernel) (fun c14 => ?_)
  refine b_guard (fun hb => ?_)
  refine b_aI (ci := 0) (y := 0) (w := .null) (by decide +kernel) (by decide +kernel) hb (fun c15 => ?_)
  refine b_izF (c := .ne) (o := 88) (t := 217) (y := 0) (w := .null) (by decide +kernel) cmp_ne (fun _ => ?_) (fun _ => ?_)
  · refine b_run [(132, .iload_n 1, 0, 0, .null), (133, .bipush 61, 0, 0, .null)] (pc' := 135) (ls' := [some (.ref 1315), some (.int y1), some (.int z0), none]) (st' := [.int 61, .int y1]) (by decide +kernel) rfl ?_
    refine b_icT (c := .eq) (o := 19) (t := 154) (y := 0) (w := .null) (by decide +kernel) cmp_eq (fun _ => ?_) (fun _ => ?_)
    · exact b_wk (wS (wS (wS (wN w0)))) (s225_154 hv F y1 z0 σ)
    · refine b_run [(138, .iload_n 1, 0, 0, .null), (139, .bipush 60, 0, 0, .null)] (pc' := 141) (ls' := [some (.ref 1315), some (.int y1), some (.int z0), none]) (st' := [.int 60, .int y1]) (by decide +kernel) rfl ?_
      refine b_icT (c := .eq) (o := 13) (t := 154) (y := 0) (w := .null) (by decide +kernel) cmp_eq (fun _ => ?_) (fun _ => ?_)
      · exact b_wk (wS (wS (wS (wN w0)))) (s225_154 hv F y1 z0 σ)
      · refine b_run [(144, .iload_n 1, 0, 0, .null), (145, .bipush 62, 0, 0, .null)] (pc' := 147) (ls' := [some (.ref 1315), some (.int y1), some (.int z0), none]) (st' := [.int 62, .int y1]) (by decide +kernel) rfl ?_
        refine b_icT (c := .eq) (o := 7) (t := 154) (y := 0) (w := .null) (by decide +kernel) cmp_eq (fun _ => ?_) (fun _ => ?_)
        · exact b_wk (wS (wS (wS (wN w0)))) (s225_154 hv F y1 z0 σ)
        · refine b_run [(150, .iload_n 2, 0, 0, .null)] (pc' := 151) (ls' := [some (.ref 1315), some (.int y1), some (.int z0), none]) (st' := [.int z0]) (by decide +kernel) rfl ?_
          refine b_izT (c := .eq) (o := 66) (t := 217) (y := 0) (w := .null) (by decide +kernel) cmp_eq (fun _ => ?_) (fun _ => ?_)
          · exact b_wk (wS (wS (wN (wN w0)))) (s225_217 hv F y1 σ)
          · exact b_wk (wS (wS (wS (wN w0)))) (s225_154 hv F y1 z0 σ)
  · exact b_wk (wS (wS (wN (wN w0)))) (s225_217 hv F y1 σ)
def f225_118 (F : Nat) (y1 : Int32) (σ : St) : Rs := f225_119 F y1 0 σ
theorem s225_118 {sc : aSc} (hv : vOk sc) (F : Nat) (y1 : Int32) (σ : St) : bEx sc 1 225 118 [some (.ref 1315), some (.int y1), none, none] [] σ (f225_118 F y1 σ) := by
  unfold f225_118
  refine b_run [(118, .iconst 0, 0, 0, .null)] (pc' := 119) (ls' := [some (.ref 1315), some (.int y1), none, none]) (st' := [.int 0]) (by decide +kernel) rfl ?_
  exact b_wk (wS (wS (wN (wN w0)))) (s225_119 hv F y1 0 σ)
def f225_37 (F : Nat) (σ : St) : Rs := lt (σ.1 1315 32) fun c3 => 
    cI (f152 F c3 σ) fun c5 σ4 => 
    if c5 = 43 then f225_58 F c5 σ4
    else if c5 = 45 then f225_58 F c5 σ4
    else if c5 = 33 then 
    lt (σ4.1 1315 32) fun c11 => 
    cI (f152 F (c11 + 1) σ4) fun c13 σ12 => 
    if c13 = 61 then f225_119 F c5 1 σ12
    else f225_118 F c5 σ12
    else f225_118 F c5 σ4
theorem s225_37 {sc : aSc} (hv : vOk sc) (F : Nat) (σ : St) : bEx sc 1 225 37 [some (.ref 1315), none, none, none] [] σ (f225_37 F σ) := by
  unfold f225_37
  refine b_run [(37, .aload_n 0, 0, 0, .null), (38, .aload_n 0, 0, 0, .null)] (pc' := 39) (ls' := [some (.ref 1315), none, none, none]) (st' := [.ref 1315, .ref 1315]) (by decide +kernel) rfl ?_
  refine b_gI (q := 181) (ci := 9) (k := 32) (w := .null) (by decide +kernel) (by decide +kernel) (fun c3 => ?_)
  refine b_callI 152 2 [.ref 1315, .int c3] (rest := []) (by decide +kernel) rfl rfl rfl (go_O rfl (by decide +kernel) (by decide +kernel : isO 1315 9 = true)) rfl (s152 hv F c3 σ) (by decide) (fun c5 σ4 => ?_)
  refine b_run [(45, .istore_n 1, 0, 0, .null), (46, .iload_n 1, 0, 0, .null), (47, .bipush 43, 0, 0, .null)] (pc' := 49) (ls' := [some (.ref 1315), some (.int c5), none, none]) (st' := [.int 43, .int c5]) (by decide +kernel) rfl ?_
  refine b_icT (c := .eq) (o := 9) (t := 58) (y := 0) (w := .null) (by decide +kernel) cmp_eq (fun _ => ?_) (fun _ => ?_)
  · exact b_wk (wS (wS (wN (wN w0)))) (s225_58 hv F c5 σ4)
  · refine b_run [(52, .iload_n 1, 0, 0, .null), (53, .bipush 45, 0, 0, .null)] (pc' := 55) (ls' := [some (.ref 1315), some (.int c5), none, none]) (st' := [.int 45, .int c5]) (by decide +kernel) rfl ?_
    refine b_icF (c := .ne) (o := 38) (t := 93) (y := 0) (w := .null) (by decide +kernel) cmp_ne (fun _ => ?_) (fun _ => ?_)
    · exact b_wk (wS (wS (wN (wN w0)))) (s225_58 hv F c5 σ4)
    · refine b_run [(93, .iload_n 1, 0, 0, .null), (94, .bipush 33, 0, 0, .null)] (pc' := 96) (ls' := [some (.ref 1315), some (.int c5), none, none]) (st' := [.int 33, .int c5]) (by decide +kernel) rfl ?_
      refine b_icF (c := .ne) (o := 22) (t := 118) (y := 0) (w := .null) (by decide +kernel) cmp_ne (fun _ => ?_) (fun _ => ?_)
      · refine b_run [(99, .aload_n 0, 0, 0, .null), (100, .aload_n 0, 0, 0, .null)] (pc' := 101) (ls' := [some (.ref 1315), some (.int c5), none, none]) (st' := [.ref 1315, .ref 1315]) (by decide +kernel) rfl ?_
        refine b_gI (q := 181) (ci := 9) (k := 32) (w := .null) (by decide +kernel) (by decide +kernel) (fun c11 => ?_)
        refine b_run [(104, .iconst 1, 0, 0, .null), (105, .iadd, 0, 0, .null)] (pc' := 106) (ls' := [some (.ref 1315), some (.int c5), none, none]) (st' := [.int (c11 + 1), .ref 1315]) (by decide +kernel) rfl ?_
        refine b_callI 152 2 [.ref 1315, .int (c11 + 1)] (rest := []) (by decide +kernel) rfl rfl rfl (go_O rfl (by decide +kernel) (by decide +kernel : isO 1315 9 = true)) rfl (s152 hv F (c11 + 1) σ4) (by decide) (fun c13 σ12 => ?_)
        refine b_run [(109, .bipush 61, 0, 0, .null)] (pc' := 111) (ls' := [some (.ref 1315), some (.int c5), none, none]) (st' := [.int 61, .int c13]) (by decide +kernel) rfl ?_
        refine b_icF (c := .ne) (o := 7) (t := 118) (y := 0) (w := .null) (by decide +kernel) cmp_ne (fun _ => ?_) (fun _ => ?_)
        · refine b_run [(114, .iconst 1, 0, 0, .null), (115, .goto 4, 119, 0, .null)] (pc' := 119) (ls' := [some (.ref 1315), some (.int c5), none, none]) (st' := [.int 1]) (by decide +kernel) rfl ?_
          exact b_wk (wS (wS (wN (wN w0)))) (s225_119 hv F c5 1 σ12)
        · exact b_wk (wS (wS (wN (wN w0)))) (s225_118 hv F c5 σ12)
      · exact b_wk (wS (wS (wN (wN w0)))) (s225_118 hv F c5 σ4)
/-- TreeStoreModel.behindValue()I -/
def f225 (F : Nat) (σ : St) : Rs := lt (σ.1 1315 52) fun c1 => 
    if inB c1 6 then lt (σ.1 1357 c1.toNatClampNeg) fun c2 => 
    if c2 = 0 then f225_37 F σ
    else lt (σ.1 1315 52) fun c39 => 
    if inB c39 6 then lt (σ.1 1357 c39.toNatClampNeg) fun c40 => 
    cV (f221 F c40 0 0 σ) fun σ41 => lt (σ41.1 1315 52) fun c43 => if inB c43 6 then lt (uI σ41 1357 c43.toNatClampNeg 0) fun σ44 => f225_37 F σ44 else none else none else none
theorem s225 {sc : aSc} (hv : vOk sc) (F : Nat) (σ : St) : bEx sc 1 225 0 [some (.ref 1315), none, none, none] [] σ (f225 F σ) := by
  unfold f225
  refine b_run [(0, .aload_n 0, 0, 0, .null)] (pc' := 1) (ls' := [some (.ref 1315), none, none, none]) (st' := [.ref 1315]) (by decide +kernel) rfl ?_
  refine b_getC (b := 1357) (q := 135) (ci := 9) (k := 57) (w := .null) (by decide +kernel) (by decide +kernel) ?_
  refine b_run [(4, .aload_n 0, 0, 0, .null)] (pc' := 5) (ls' := [some (.ref 1315), none, none, none]) (st' := [.ref 1315, .ref 1357]) (by decide +kernel) rfl ?_
  refine b_gI (q := 395) (ci := 9) (k := 52) (w := .null) (by decide +kernel) (by decide +kernel) (fun c1 => ?_)
  refine b_guard (fun hb => ?_)
  refine b_aI (ci := 0) (y := 0) (w := .null) (by decide +kernel) (by decide +kernel) hb (fun c2 => ?_)
  refine b_izT (c := .eq) (o := 28) (t := 37) (y := 0) (w := .null) (by decide +kernel) cmp_eq (fun _ => ?_) (fun _ => ?_)
  · exact b_wk (wS (wN (wN (wN w0)))) (s225_37 hv F σ)
  · refine b_run [(12, .aload_n 0, 0, 0, .null), (13, .aload_n 0, 0, 0, .null)] (pc' := 14) (ls' := [some (.ref 1315), none, none, none]) (st' := [.ref 1315, .ref 1315]) (by decide +kernel) rfl ?_
    refine b_getC (b := 1357) (q := 135) (ci := 9) (k := 57) (w := .null) (by decide +kernel) (by decide +kernel) ?_
    refine b_run [(17, .aload_n 0, 0, 0, .null)] (pc' := 18) (ls' := [some (.ref 1315), none, none, none]) (st' := [.ref 1315, .ref 1357, .ref 1315]) (by decide +kernel) rfl ?_
    refine b_gI (q := 395) (ci := 9) (k := 52) (w := .null) (by decide +kernel) (by decide +kernel) (fun c39 => ?_)
    refine b_guard (fun hb => ?_)
    refine b_aI (ci := 0) (y := 0) (w := .null) (by decide +kernel) (by decide +kernel) hb (fun c40 => ?_)
    refine b_run [(22, .iconst 0, 0, 0, .null), (23, .iconst 0, 0, 0, .null)] (pc' := 24) (ls' := [some (.ref 1315), none, none, none]) (st' := [.int 0, .int 0, .int c40, .ref 1315]) (by decide +kernel) rfl ?_
    refine b_callV 221 4 [.ref 1315, .int c40, .int 0, .int 0] (rest := []) (by decide +kernel) rfl rfl rfl (go_O rfl (by decide +kernel) (by decide +kernel : isO 1315 9 = true)) rfl (s221 hv F c40 0 0 σ) (by decide) (fun σ41 => ?_)
    refine b_run [(27, .aload_n 0, 0, 0, .null)] (pc' := 28) (ls' := [some (.ref 1315), none, none, none]) (st' := [.ref 1315]) (by decide +kernel) rfl ?_
    refine b_getC (b := 1357) (q := 135) (ci := 9) (k := 57) (w := .null) (by decide +kernel) (by decide +kernel) ?_
    refine b_run [(31, .aload_n 0, 0, 0, .null)] (pc' := 32) (ls' := [some (.ref 1315), none, none, none]) (st' := [.ref 1315, .ref 1357]) (by decide +kernel) rfl ?_
    refine b_gI (q := 395) (ci := 9) (k := 52) (w := .null) (by decide +kernel) (by decide +kernel) (fun c43 => ?_)
    refine b_run [(35, .iconst 0, 0, 0, .null)] (pc' := 36) (ls' := [some (.ref 1315), none, none, none]) (st' := [.int 0, .int c43, .ref 1357]) (by decide +kernel) rfl ?_
    refine b_guard (fun hb => ?_)
    refine b_sI (ci := 0) (y := 0) (w := .null) (by decide +kernel) (by decide +kernel) hb (fun σ44 => ?_)
    exact b_wk (wS (wN (wN (wN w0)))) (s225_37 hv F σ44)
/-- TreeStoreModel.addStep(IIII)V -/
def f209 (F : Nat) (x1 : Int32) (x2 : Int32) (x3 : Int32) (x4 : Int32) (σ : St) : Rs := lt (σ.1 1315 38) fun c1 => 
    lt (σ.1 1315 52) fun c2 => 
    if inB c2 6 then lt (σ.1 1354 c2.toNatClampNeg) fun c3 => 
    if inB c1 130 then lt (uI σ 1342 c1.toNatClampNeg c3) fun σ4 => 
    lt (σ4.1 1315 38) fun c5 => 
    if inB c5 130 then lt (uI σ4 1343 c5.toNatClampNeg x1) fun σ6 => 
    lt (σ6.1 1315 38) fun c7 => 
    if inB c7 130 then lt (uI σ6 1344 c7.toNatClampNeg x2) fun σ8 => 
    lt (σ8.1 1315 38) fun c9 => 
    if inB c9 130 then lt (uI σ8 1345 c9.toNatClampNeg x3) fun σ10 => 
    lt (σ10.1 1315 38) fun c11 => 
    if inB c11 130 then lt (uI σ10 1346 c11.toNatClampNeg x4) fun σ12 => 
    lt (σ12.1 1315 52) fun c13 => 
    lt (σ12.1 1315 38) fun c14 => 
    if inB c13 6 then lt (uI σ12 1355 c13.toNatClampNeg c14) fun σ15 => lt (σ15.1 1315 38) fun c16 => lt (uI σ15 1315 38 (c16 + 1)) fun σ17 => oV σ17 else none else none else none else none else none else none else none
theorem s209 {sc : aSc} (hv : vOk sc) (F : Nat) (x1 : Int32) (x2 : Int32) (x3 : Int32) (x4 : Int32) (σ : St) : bEx sc 0 209 0 [some (.ref 1315), some (.int x1), some (.int x2), some (.int x3), some (.int x4)] [] σ (f209 F x1 x2 x3 x4 σ) := by
  unfold f209
  refine b_run [(0, .aload_n 0, 0, 0, .null)] (pc' := 1) (ls' := [some (.ref 1315), some (.int x1), some (.int x2), some (.int x3), some (.int x4)]) (st' := [.ref 1315]) (by decide +kernel) rfl ?_
  refine b_getC (b := 1342) (q := 90) (ci := 9) (k := 39) (w := .null) (by decide +kernel) (by decide +kernel) ?_
  refine b_run [(4, .aload_n 0, 0, 0, .null)] (pc' := 5) (ls' := [some (.ref 1315), some (.int x1), some (.int x2), some (.int x3), some (.int x4)]) (st' := [.ref 1315, .ref 1342]) (by decide +kernel) rfl ?_
  refine b_gI (q := 392) (ci := 9) (k := 38) (w := .null) (by decide +kernel) (by decide +kernel) (fun c1 => ?_)
  refine b_run [(8, .aload_n 0, 0, 0, .null)] (pc' := 9) (ls' := [some (.ref 1315), some (.int x1), some (.int x2), some (.int x3), some (.int x4)]) (st' := [.ref 1315, .int c1, .ref 1342]) (by decide +kernel) rfl ?_
  refine b_getC (b := 1354) (q := 126) (ci := 9) (k := 54) (w := .null) (by decide +kernel) (by decide +kernel) ?_
  refine b_run [(12, .aload_n 0, 0, 0, .null)] (pc' := 13) (ls' := [some (.ref 1315), some (.int x1), some (.int x2), some (.int x3), some (.int x4)]) (st' := [.ref 1315, .ref 1354, .int c1, .ref 1342]) (by decide +kernel) rfl ?_
  refine b_gI (q := 395) (ci := 9) (k := 52) (w := .null) (by decide +kernel) (by decide +kernel) (fun c2 => ?_)
  refine b_guard (fun hb => ?_)
  refine b_aI (ci := 0) (y := 0) (w := .null) (by decide +kernel) (by decide +kernel) hb (fun c3 => ?_)
  refine b_guard (fun hb => ?_)
  refine b_sI (ci := 0) (y := 0) (w := .null) (by decide +kernel) (by decide +kernel) hb (fun σ4 => ?_)
  refine b_run [(18, .aload_n 0, 0, 0, .null)] (pc' := 19) (ls' := [some (.ref 1315), some (.int x1), some (.int x2), some (.int x3), some (.int x4)]) (st' := [.ref 1315]) (by decide +kernel) rfl ?_
  refine b_getC (b := 1343) (q := 93) (ci := 9) (k := 40) (w := .null) (by decide +kernel) (by decide +kernel) ?_
  refine b_run [(22, .aload_n 0, 0, 0, .null)] (pc' := 23) (ls' := [some (.ref 1315), some (.int x1), some (.int x2), some (.int x3), some (.int x4)]) (st' := [.ref 1315, .ref 1343]) (by decide +kernel) rfl ?_
  refine b_gI (q := 392) (ci := 9) (k := 38) (w := .null) (by decide +kernel) (by decide +kernel) (fun c5 => ?_)
  refine b_run [(26, .iload_n 1, 0, 0, .null)] (pc' := 27) (ls' := [some (.ref 1315), some (.int x1), some (.int x2), some (.int x3), some (.int x4)]) (st' := [.int x1, .int c5, .ref 1343]) (by decide +kernel) rfl ?_
  refine b_guard (fun hb => ?_)
  refine b_sI (ci := 0) (y := 0) (w := .null) (by decide +kernel) (by decide +kernel) hb (fun σ6 => ?_)
  refine b_run [(28, .aload_n 0, 0, 0, .null)] (pc' := 29) (ls' := [some (.ref 1315), some (.int x1), some (.int x2), some (.int x3), some (.int x4)]) (st' := [.ref 1315]) (by decide +kernel) rfl ?_
  refine b_getC (b := 1344) (q := 96) (ci := 9) (k := 41) (w := .null) (by decide +kernel) (by decide +kernel) ?_
  refine b_run [(32, .aload_n 0, 0, 0, .null)] (pc' := 33) (ls' := [some (.ref 1315), some (.int x1), some (.int x2), some (.int x3), some (.int x4)]) (st' := [.ref 1315, .ref 1344]) (by decide +kernel) rfl ?_
  refine b_gI (q := 392) (ci := 9) (k := 38) (w := .null) (by decide +kernel) (by decide +kernel) (fun c7 => ?_)
  refine b_run [(36, .iload_n 2, 0, 0, .null)] (pc' := 37) (ls' := [some (.ref 1315), some (.int x1), some (.int x2), some (.int x3), some (.int x4)]) (st' := [.int x2, .int c7, .ref 1344]) (by decide +kernel) rfl ?_
  refine b_guard (fun hb => ?_)
  refine b_sI (ci := 0) (y := 0) (w := .null) (by decide +kernel) (by decide +kernel) hb (fun σ8 => ?_)
  refine b_run [(38, .aload_n 0, 0, 0, .null)] (pc' := 39) (ls' := [some (.ref 1315), some (.int x1), some (.int x2), some (.int x3), some (.int x4)]) (st' := [.ref 1315]) (by decide +kernel) rfl ?_
  refine b_getC (b := 1345) (q := 99) (ci := 9) (k := 42) (w := .null) (by decide +kernel) (by decide +kernel) ?_
  refine b_run [(42, .aload_n 0, 0, 0, .null)] (pc' := 43) (ls' := [some (.ref 1315), some (.int x1), some (.int x2), some (.int x3), some (.int x4)]) (st' := [.ref 1315, .ref 1345]) (by decide +kernel) rfl ?_
  refine b_gI (q := 392) (ci := 9) (k := 38) (w := .null) (by decide +kernel) (by decide +kernel) (fun c9 => ?_)
  refine b_run [(46, .iload_n 3, 0, 0, .null)] (pc' := 47) (ls' := [some (.ref 1315), some (.int x1), some (.int x2), some (.int x3), some (.int x4)]) (st' := [.int x3, .int c9, .ref 1345]) (by decide +kernel) rfl ?_
  refine b_guard (fun hb => ?_)
  refine b_sI (ci := 0) (y := 0) (w := .null) (by decide +kernel) (by decide +kernel) hb (fun σ10 => ?_)
  refine b_run [(48, .aload_n 0, 0, 0, .null)] (pc' := 49) (ls' := [some (.ref 1315), some (.int x1), some (.int x2), some (.int x3), some (.int x4)]) (st' := [.ref 1315]) (by decide +kernel) rfl ?_
  refine b_getC (b := 1346) (q := 102) (ci := 9) (k := 43) (w := .null) (by decide +kernel) (by decide +kernel) ?_
  refine b_run [(52, .aload_n 0, 0, 0, .null)] (pc' := 53) (ls' := [some (.ref 1315), some (.int x1), some (.int x2), some (.int x3), some (.int x4)]) (st' := [.ref 1315, .ref 1346]) (by decide +kernel) rfl ?_
  refine b_gI (q := 392) (ci := 9) (k := 38) (w := .null) (by decide +kernel) (by decide +kernel) (fun c11 => ?_)
  refine b_run [(56, .iload 4, 0, 0, .null)] (pc' := 58) (ls' := [some (.ref 1315), some (.int x1), some (.int x2), some (.int x3), some (.int x4)]) (st' := [.int x4, .int c11, .ref 1346]) (by decide +kernel) rfl ?_
  refine b_guard (fun hb => ?_)
  refine b_sI (ci := 0) (y := 0) (w := .null) (by decide +kernel) (by decide +kernel) hb (fun σ12 => ?_)
  refine b_run [(59, .aload_n 0, 0, 0, .null)] (pc' := 60) (ls' := [some (.ref 1315), some (.int x1), some (.int x2), some (.int x3), some (.int x4)]) (st' := [.ref 1315]) (by decide +kernel) rfl ?_
  refine b_getC (b := 1355) (q := 129) (ci := 9) (k := 55) (w := .null) (by decide +kernel) (by decide +kernel) ?_
  refine b_run [(63, .aload_n 0, 0, 0, .null)] (pc' := 64) (ls' := [some (.ref 1315), some (.int x1), some (.int x2), some (.int x3), some (.int x4)]) (st' := [.ref 1315, .ref 1355]) (by decide +kernel) rfl ?_
  refine b_gI (q := 395) (ci := 9) (k := 52) (w := .null) (by decide +kernel) (by decide +kernel) (fun c13 => ?_)
  refine b_run [(67, .aload_n 0, 0, 0, .null)] (pc' := 68) (ls' := [some (.ref 1315), some (.int x1), some (.int x2), some (.int x3), some (.int x4)]) (st' := [.ref 1315, .int c13, .ref 1355]) (by decide +kernel) rfl ?_
  refine b_gI (q := 392) (ci := 9) (k := 38) (w := .null) (by decide +kernel) (by decide +kernel) (fun c14 => ?_)
  refine b_guard (fun hb => ?_)
  refine b_sI (ci := 0) (y := 0) (w := .null) (by decide +kernel) (by decide +kernel) hb (fun σ15 => ?_)
  refine b_run [(72, .aload_n 0, 0, 0, .null), (73, .dup, 0, 0, .null)] (pc' := 74) (ls' := [some (.ref 1315), some (.int x1), some (.int x2), some (.int x3), some (.int x4)]) (st' := [.ref 1315, .ref 1315]) (by decide +kernel) rfl ?_
  refine b_gI (q := 392) (ci := 9) (k := 38) (w := .null) (by decide +kernel) (by decide +kernel) (fun c16 => ?_)
  refine b_run [(77, .iconst 1, 0, 0, .null), (78, .iadd, 0, 0, .null)] (pc' := 79) (ls' := [some (.ref 1315), some (.int x1), some (.int x2), some (.int x3), some (.int x4)]) (st' := [.int (c16 + 1), .ref 1315]) (by decide +kernel) rfl ?_
  refine b_pI (q := 392) (ci := 9) (k := 38) (w := .null) (by decide +kernel) (by decide +kernel) (fit_I _) (fun σ17 => ?_)
  exact b_ret0 (i := (.return_, 0, 0, .null)) (by decide +kernel) rfl rfl
/-- TreeStoreModel.beginsStep(I)Z -/
def f210 (F : Nat) (x1 : Int32) (σ : St) : Rs := cI (f156 F x1 σ) fun c2 σ1 => 
    if c2 = 0 then 
    if x1 = 46 then oI 1 σ1
    else if x1 = 64 then oI 1 σ1
    else if x1 = 42 then oI 1 σ1
    else oI 0 σ1
    else oI 1 σ1
theorem s210 {sc : aSc} (hv : vOk sc) (F : Nat) (x1 : Int32) (σ : St) : bEx sc 1 210 0 [some (.ref 1315), some (.int x1)] [] σ (f210 F x1 σ) := by
  unfold f210
  refine b_run [(0, .iload_n 1, 0, 0, .null)] (pc' := 1) (ls' := [some (.ref 1315), some (.int x1)]) (st' := [.int x1]) (by decide +kernel) rfl ?_
  refine b_callI 156 1 [.int x1] (rest := []) (by decide +kernel) rfl rfl rfl (go_S rfl (by decide +kernel)) rfl (s156 hv F x1 σ) (by decide) (fun c2 σ1 => ?_)
  refine b_izF (c := .ne) (o := 21) (t := 25) (y := 0) (w := .null) (by decide +kernel) cmp_ne (fun _ => ?_) (fun _ => ?_)
  · refine b_run [(7, .iload_n 1, 0, 0, .null), (8, .bipush 46, 0, 0, .null)] (pc' := 10) (ls' := [some (.ref 1315), some (.int x1)]) (st' := [.int 46, .int x1]) (by decide +kernel) rfl ?_
    refine b_icT (c := .eq) (o := 15) (t := 25) (y := 0) (w := .null) (by decide +kernel) cmp_eq (fun _ => ?_) (fun _ => ?_)
    · refine b_run [(25, .iconst 1, 0, 0, .null), (26, .goto 4, 30, 0, .null)] (pc' := 30) (ls' := [some (.ref 1315), some (.int x1)]) (st' := [.int 1]) (by decide +kernel) rfl ?_
      exact b_ret (i := (.ireturn, 0, 0, .null)) (by decide +kernel) rfl rfl (by decide +kernel)
    · refine b_run [(13, .iload_n 1, 0, 0, .null), (14, .bipush 64, 0, 0, .null)] (pc' := 16) (ls' := [some (.ref 1315), some (.int x1)]) (st' := [.int 64, .int x1]) (by decide +kernel) rfl ?_
      refine b_icT (c := .eq) (o := 9) (t := 25) (y := 0) (w := .null) (by decide +kernel) cmp_eq (fun _ => ?_) (fun _ => ?_)
      · refine b_run [(25, .iconst 1, 0, 0, .null), (26, .goto 4, 30, 0, .null)] (pc' := 30) (ls' := [some (.ref 1315), some (.int x1)]) (st' := [.int 1]) (by decide +kernel) rfl ?_
        exact b_ret (i := (.ireturn, 0, 0, .null)) (by decide +kernel) rfl rfl (by decide +kernel)
      · refine b_run [(19, .iload_n 1, 0, 0, .null), (20, .bipush 42, 0, 0, .null)] (pc' := 22) (ls' := [some (.ref 1315), some (.int x1)]) (st' := [.int 42, .int x1]) (by decide +kernel) rfl ?_
        refine b_icF (c := .ne) (o := 7) (t := 29) (y := 0) (w := .null) (by decide +kernel) cmp_ne (fun _ => ?_) (fun _ => ?_)
        · refine b_run [(25, .iconst 1, 0, 0, .null), (26, .goto 4, 30, 0, .null)] (pc' := 30) (ls' := [some (.ref 1315), some (.int x1)]) (st' := [.int 1]) (by decide +kernel) rfl ?_
          exact b_ret (i := (.ireturn, 0, 0, .null)) (by decide +kernel) rfl rfl (by decide +kernel)
        · refine b_run [(29, .iconst 0, 0, 0, .null)] (pc' := 30) (ls' := [some (.ref 1315), some (.int x1)]) (st' := [.int 0]) (by decide +kernel) rfl ?_
          exact b_ret (i := (.ireturn, 0, 0, .null)) (by decide +kernel) rfl rfl (by decide +kernel)
  · refine b_run [(25, .iconst 1, 0, 0, .null), (26, .goto 4, 30, 0, .null)] (pc' := 30) (ls' := [some (.ref 1315), some (.int x1)]) (st' := [.int 1]) (by decide +kernel) rfl ?_
    exact b_ret (i := (.ireturn, 0, 0, .null)) (by decide +kernel) rfl rfl (by decide +kernel)
def f208_39 (F : Nat) (z1 : Int32) (z2 : Int32) (σ : St) : Rs := if inB z1 130 then lt (uI σ 1341 z1.toNatClampNeg (vp_nar .boolean z2)) fun σ8 => 
    lt (σ8.1 1315 36) fun c9 => 
    lt (uI σ8 1315 36 (c9 + 1)) fun σ10 => 
    lt (σ10.1 1315 32) fun c11 => 
    cI (f152 F c11 σ10) fun c13 σ12 => 
    if c13 = 47 then 
    lt (σ12.1 1315 32) fun c14 => 
    cI (f152 F (c14 + 1) σ12) fun c16 σ15 => 
    if c16 = 47 then lt (σ15.1 1315 32) fun c17 => lt (uI σ15 1315 32 (c17 + 2)) fun σ18 => cV (f209 F 10 4 0 0 σ18) fun σ19 => oI 2 σ19
    else lt (σ15.1 1315 32) fun c21 => 
    lt (uI σ15 1315 32 (c21 + 1)) fun σ22 => 
    lt (σ22.1 1315 32) fun c23 => 
    cI (f152 F c23 σ22) fun c25 σ24 => 
    cI (f210 F c25 σ24) fun c27 σ26 => 
    if c27 = 0 then oI 5 σ26
    else oI 2 σ26
    else oI 2 σ12 else none
theorem s208_39 {sc : aSc} (hv : vOk sc) (F : Nat) (z1 : Int32) (z2 : Int32) (σ : St) : bEx sc 2 208 39 [some (.ref 1315)] [.int z2, .int z1, .ref 1341] σ (f208_39 F z1 z2 σ) := by
  unfold f208_39
  refine b_guard (fun hb => ?_)
  refine b_sZ (ci := 0) (y := 0) (w := .null) (by decide +kernel) (by decide +kernel) hb (fun σ8 => ?_)
  refine b_run [(40, .aload_n 0, 0, 0, .null), (41, .dup, 0, 0, .null)] (pc' := 42) (ls' := [some (.ref 1315)]) (st' := [.ref 1315, .ref 1315]) (by decide +kernel) rfl ?_
  refine b_gI (q := 401) (ci := 9) (k := 36) (w := .null) (by decide +kernel) (by decide +kernel) (fun c9 => ?_)
  refine b_run [(45, .iconst 1, 0, 0, .null), (46, .iadd, 0, 0, .null)] (pc' := 47) (ls' := [some (.ref 1315)]) (st' := [.int (c9 + 1), .ref 1315]) (by decide +kernel) rfl ?_
  refine b_pI (q := 401) (ci := 9) (k := 36) (w := .null) (by decide +kernel) (by decide +kernel) (fit_I _) (fun σ10 => ?_)
  refine b_run [(50, .aload_n 0, 0, 0, .null), (51, .aload_n 0, 0, 0, .null)] (pc' := 52) (ls' := [some (.ref 1315)]) (st' := [.ref 1315, .ref 1315]) (by decide +kernel) rfl ?_
  refine b_gI (q := 181) (ci := 9) (k := 32) (w := .null) (by decide +kernel) (by decide +kernel) (fun c11 => ?_)
  refine b_callI 152 2 [.ref 1315, .int c11] (rest := []) (by decide +kernel) rfl rfl rfl (go_O rfl (by decide +kernel) (by decide +kernel : isO 1315 9 = true)) rfl (s152 hv F c11 σ10) (by decide) (fun c13 σ12 => ?_)
  refine b_run [(58, .bipush 47, 0, 0, .null)] (pc' := 60) (ls' := [some (.ref 1315)]) (st' := [.int 47, .int c13]) (by decide +kernel) rfl ?_
  refine b_icT (c := .eq) (o := 5) (t := 65) (y := 0) (w := .null) (by decide +kernel) cmp_eq (fun _ => ?_) (fun _ => ?_)
  · refine b_run [(65, .aload_n 0, 0, 0, .null), (66, .aload_n 0, 0, 0, .null)] (pc' := 67) (ls' := [some (.ref 1315)]) (st' := [.ref 1315, .ref 1315]) (by decide +kernel) rfl ?_
    refine b_gI (q := 181) (ci := 9) (k := 32) (w := .null) (by decide +kernel) (by decide +kernel) (fun c14 => ?_)
    refine b_run [(70, .iconst 1, 0, 0, .null), (71, .iadd, 0, 0, .null)] (pc' := 72) (ls' := [some (.ref 1315)]) (st' := [.int (c14 + 1), .ref 1315]) (by decide +kernel) rfl ?_
    refine b_callI 152 2 [.ref 1315, .int (c14 + 1)] (rest := []) (by decide +kernel) rfl rfl rfl (go_O rfl (by decide +kernel) (by decide +kernel : isO 1315 9 = true)) rfl (s152 hv F (c14 + 1) σ12) (by decide) (fun c16 σ15 => ?_)
    refine b_run [(75, .bipush 47, 0, 0, .null)] (pc' := 77) (ls' := [some (.ref 1315)]) (st' := [.int 47, .int c16]) (by decide +kernel) rfl ?_
    refine b_icF (c := .ne) (o := 24) (t := 101) (y := 0) (w := .null) (by decide +kernel) cmp_ne (fun _ => ?_) (fun _ => ?_)
    · refine b_run [(80, .aload_n 0, 0, 0, .null), (81, .dup, 0, 0, .null)] (pc' := 82) (ls' := [some (.ref 1315)]) (st' := [.ref 1315, .ref 1315]) (by decide +kernel) rfl ?_
      refine b_gI (q := 181) (ci := 9) (k := 32) (w := .null) (by decide +kernel) (by decide +kernel) (fun c17 => ?_)
      refine b_run [(85, .iconst 2, 0, 0, .null), (86, .iadd, 0, 0, .null)] (pc' := 87) (ls' := [some (.ref 1315)]) (st' := [.int (c17 + 2), .ref 1315]) (by decide +kernel) rfl ?_
      refine b_pI (q := 181) (ci := 9) (k := 32) (w := .null) (by decide +kernel) (by decide +kernel) (fit_I _) (fun σ18 => ?_)
      refine b_run [(90, .aload_n 0, 0, 0, .null), (91, .bipush 10, 0, 0, .null), (93, .iconst 4, 0, 0, .null), (94, .iconst 0, 0, 0, .null), (95, .iconst 0, 0, 0, .null)] (pc' := 96) (ls' := [some (.ref 1315)]) (st' := [.int 0, .int 0, .int 4, .int 10, .ref 1315]) (by decide +kernel) rfl ?_
      refine b_callV 209 5 [.ref 1315, .int 10, .int 4, .int 0, .int 0] (rest := []) (by decide +kernel) rfl rfl rfl (go_O rfl (by decide +kernel) (by decide +kernel : isO 1315 9 = true)) rfl (s209 hv F 10 4 0 0 σ18) (by decide) (fun σ19 => ?_)
      refine b_run [(99, .iconst 2, 0, 0, .null)] (pc' := 100) (ls' := [some (.ref 1315)]) (st' := [.int 2]) (by decide +kernel) rfl ?_
      exact b_ret (i := (.ireturn, 0, 0, .null)) (by decide +kernel) rfl rfl (fit_I _)
    · refine b_run [(101, .aload_n 0, 0, 0, .null), (102, .dup, 0, 0, .null)] (pc' := 103) (ls' := [some (.ref 1315)]) (st' := [.ref 1315, .ref 1315]) (by decide +kernel) rfl ?_
      refine b_gI (q := 181) (ci := 9) (k := 32) (w := .null) (by decide +kernel) (by decide +kernel) (fun c21 => ?_)
      refine b_run [(106, .iconst 1, 0, 0, .null), (107, .iadd, 0, 0, .null)] (pc' := 108) (ls' := [some (.ref 1315)]) (st' := [.int (c21 + 1), .ref 1315]) (by decide +kernel) rfl ?_
      refine b_pI (q := 181) (ci := 9) (k := 32) (w := .null) (by decide +kernel) (by decide +kernel) (fit_I _) (fun σ22 => ?_)
      refine b_run [(111, .aload_n 0, 0, 0, .null), (112, .aload_n 0, 0, 0, .null), (113, .aload_n 0, 0, 0, .null)] (pc' := 114) (ls' := [some (.ref 1315)]) (st' := [.ref 1315, .ref 1315, .ref 1315]) (by decide +kernel) rfl ?_
      refine b_gI (q := 181) (ci := 9) (k := 32) (w := .null) (by decide +kernel) (by decide +kernel) (fun c23 => ?_)
      refine b_callI 152 2 [.ref 1315, .int c23] (rest := [.ref 1315]) (by decide +kernel) rfl rfl rfl (go_O rfl (by decide +kernel) (by decide +kernel : isO 1315 9 = true)) rfl (s152 hv F c23 σ22) (by decide) (fun c25 σ24 => ?_)
      refine b_callI 210 2 [.ref 1315, .int c25] (rest := []) (by decide +kernel) rfl rfl rfl (go_O rfl (by decide +kernel) (by decide +kernel : isO 1315 9 = true)) rfl (s210 hv F c25 σ24) (by decide) (fun c27 σ26 => ?_)
      refine b_izT (c := .eq) (o := 7) (t := 130) (y := 0) (w := .null) (by decide +kernel) cmp_eq (fun _ => ?_) (fun _ => ?_)
      · refine b_run [(130, .iconst 5, 0, 0, .null)] (pc' := 131) (ls' := [some (.ref 1315)]) (st' := [.int 5]) (by decide +kernel) rfl ?_
        exact b_ret (i := (.ireturn, 0, 0, .null)) (by decide +kernel) rfl rfl (fit_I _)
      · refine b_run [(126, .iconst 2, 0, 0, .null), (127, .goto 4, 131, 0, .null)] (pc' := 131) (ls' := [some (.ref 1315)]) (st' := [.int 2]) (by decide +kernel) rfl ?_
        exact b_ret (i := (.ireturn, 0, 0, .null)) (by decide +kernel) rfl rfl (fit_I _)
  · refine b_run [(63, .iconst 2, 0, 0, .null)] (pc' := 64) (ls' := [some (.ref 1315)]) (st' := [.int 2]) (by decide +kernel) rfl ?_
    exact b_ret (i := (.ireturn, 0, 0, .null)) (by decide +kernel) rfl rfl (fit_I _)
