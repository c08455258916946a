def f206_45 (F : Nat) (k39 : Int32 → Int32 → St → Rs) : Nat → Int32 → Int32 → Int32 → St → Rs
  | 0, _, _, _, _ => none
  | n + 1, y1, y2, y3, σ => lt (σ.1 1315 3) fun c11 => 
    if y3 < c11 then 
    cI (f226 F y2 y3 σ) fun c13 σ12 => 
    if inB ((30 * y2) + y3) 3900 then lt (uI σ12 1352 ((30 * y2) + y3).toNatClampNeg c13) fun σ14 => f206_45 F k39 n y1 y2 (y3 + 1) σ14 else none
    else k39 y1 (y2 + Int32.ofInt (-1)) σ
theorem s206_45 {sc : aSc} (hv : vOk sc) (F : Nat) (k39 : Int32 → Int32 → St → Rs) (hk39 : ∀ y1 y2 σ, bEx sc 12 206 39 [some (.ref 1315), some (.int y1), some (.int y2), none] [] σ (k39 y1 y2 σ)) : ∀ (n : Nat) (y1 : Int32) (y2 : Int32) (y3 : Int32) (σ : St), bEx sc 12 206 45 [some (.ref 1315), some (.int y1), some (.int y2), some (.int y3)] [] σ (f206_45 F k39 n y1 y2 y3 σ) := by
  intro n
  induction n with
  | zero => intro y1 y2 y3 σ; exact b_none
  | succ n ih =>
    intro y1 y2 y3 σ
    rw [f206_45.eq_2]
    refine b_run [(45, .iload_n 3, 0, 0, .null), (46, .aload_n 0, 0, 0, .null)] (pc' := 47) (ls' := [some (.ref 1315), some (.int y1), some (.int y2), some (.int y3)]) (st' := [.ref 1315, .int y3]) (by decide +kernel) rfl ?_
    refine b_gI (q := 148) (ci := 9) (k := 3) (w := .null) (by decide +kernel) (by decide +kernel) (fun c11 => ?_)
    refine b_icF (c := .ge) (o := 26) (t := 76) (y := 0) (w := .null) (by decide +kernel) cmp_ge (fun _ => ?_) (fun _ => ?_)
    · refine b_run [(53, .aload_n 0, 0, 0, .null)] (pc' := 54) (ls' := [some (.ref 1315), some (.int y1), some (.int y2), some (.int y3)]) (st' := [.ref 1315]) (by decide +kernel) rfl ?_
      refine b_getC (b := 1352) (q := 120) (ci := 9) (k := 51) (w := .null) (by decide +kernel) (by decide +kernel) ?_
      refine b_run [(57, .bipush 30, 0, 0, .null), (59, .iload_n 2, 0, 0, .null), (60, .imul, 0, 0, .null), (61, .iload_n 3, 0, 0, .null), (62, .iadd, 0, 0, .null), (63, .aload_n 0, 0, 0, .null), (64, .iload_n 2, 0, 0, .null), (65, .iload_n 3, 0, 0, .null)] (pc' := 66) (ls' := [some (.ref 1315), some (.int y1), some (.int y2), some (.int y3)]) (st' := [.int y3, .int y2, .ref 1315, .int ((30 * y2) + y3), .ref 1352]) (by decide +kernel) rfl ?_
      refine b_callI 226 3 [.ref 1315, .int y2, .int y3] (rest := [.int ((30 * y2) + y3), .ref 1352]) (by decide +kernel) rfl rfl rfl (go_O rfl (by decide +kernel) (by decide +kernel : isO 1315 9 = true)) rfl (s226 hv F y2 y3 σ) (by decide) (fun c13 σ12 => ?_)
      refine b_guard (fun hb => ?_)
      refine b_sI (ci := 0) (y := 0) (w := .null) (by decide +kernel) (by decide +kernel) hb (fun σ14 => ?_)
      refine b_run [(70, .iinc 3 1, 0, 0, .null), (73, .goto (-28), 45, 0, .null)] (pc' := 45) (ls' := [some (.ref 1315), some (.int y1), some (.int y2), some (.int (y3 + 1))]) (st' := []) (by decide +kernel) rfl ?_
      exact b_wk (wS (wS (wS (wS w0)))) (ih y1 y2 (y3 + 1) σ14)
    · refine b_run [(76, .iinc 2 (-1), 0, 0, .null), (79, .goto (-40), 39, 0, .null)] (pc' := 39) (ls' := [some (.ref 1315), some (.int y1), some (.int (y2 + Int32.ofInt (-1))), some (.int y3)]) (st' := []) (by decide +kernel) rfl ?_
      exact b_wk (wS (wS (wS (wN w0)))) (hk39 y1 (y2 + Int32.ofInt (-1)) σ)
def f206_39 (F : Nat) : Nat → Int32 → Int32 → St → Rs
  | 0, _, _, _ => none
  | n + 1, y1, y2, σ => if 0 < y2 then f206_45 F (f206_39 F n) F y1 y2 0 σ
    else lt (uI σ 1315 34 1) fun σ15 => 
    cI (f226 F 0 y1 σ15) fun c17 σ16 => 
    lt (uI σ16 1315 35 c17) fun σ18 => lt (uI σ18 1315 1 0) fun σ19 => lt (σ19.1 1315 35) fun c20 => cI (f234 F c20 σ19) fun c22 σ21 => oI c22 σ21
theorem s206_39 {sc : aSc} (hv : vOk sc) (F : Nat) : ∀ (n : Nat) (y1 : Int32) (y2 : Int32) (σ : St), bEx sc 12 206 39 [some (.ref 1315), some (.int y1), some (.int y2), none] [] σ (f206_39 F n y1 y2 σ) := by
  intro n
  induction n with
  | zero => intro y1 y2 σ; exact b_none
  | succ n ih =>
    intro y1 y2 σ
    rw [f206_39.eq_2]
    refine b_run [(39, .iload_n 2, 0, 0, .null)] (pc' := 40) (ls' := [some (.ref 1315), some (.int y1), some (.int y2), none]) (st' := [.int y2]) (by decide +kernel) rfl ?_
    refine b_izF (c := .le) (o := 42) (t := 82) (y := 0) (w := .null) (by decide +kernel) cmp_le (fun _ => ?_) (fun _ => ?_)
    · refine b_run [(43, .iconst 0, 0, 0, .null), (44, .istore_n 3, 0, 0, .null)] (pc' := 45) (ls' := [some (.ref 1315), some (.int y1), some (.int y2), some (.int 0)]) (st' := []) (by decide +kernel) rfl ?_
      exact b_wk (wS (wS (wS (wS w0)))) (s206_45 hv F (f206_39 F n) ih F y1 y2 0 σ)
    · refine b_run [(82, .aload_n 0, 0, 0, .null), (83, .iconst 1, 0, 0, .null)] (pc' := 84) (ls' := [some (.ref 1315), some (.int y1), some (.int y2), none]) (st' := [.int 1, .ref 1315]) (by decide +kernel) rfl ?_
      refine b_pI (q := 269) (ci := 9) (k := 34) (w := .null) (by decide +kernel) (by decide +kernel) (by decide +kernel) (fun σ15 => ?_)
      refine b_run [(87, .aload_n 0, 0, 0, .null), (88, .aload_n 0, 0, 0, .null), (89, .iconst 0, 0, 0, .null), (90, .iload_n 1, 0, 0, .null)] (pc' := 91) (ls' := [some (.ref 1315), some (.int y1), some (.int y2), none]) (st' := [.int y1, .int 0, .ref 1315, .ref 1315]) (by decide +kernel) rfl ?_
      refine b_callI 226 3 [.ref 1315, .int 0, .int y1] (rest := [.ref 1315]) (by decide +kernel) rfl rfl rfl (go_O rfl (by decide +kernel) (by decide +kernel : isO 1315 9 = true)) rfl (s226 hv F 0 y1 σ15) (by decide) (fun c17 σ16 => ?_)
      refine b_pI (q := 556) (ci := 9) (k := 35) (w := .null) (by decide +kernel) (by decide +kernel) (fit_I _) (fun σ18 => ?_)
      refine b_run [(97, .aload_n 0, 0, 0, .null), (98, .iconst 0, 0, 0, .null)] (pc' := 99) (ls' := [some (.ref 1315), some (.int y1), some (.int y2), none]) (st' := [.int 0, .ref 1315]) (by decide +kernel) rfl ?_
      refine b_pI (q := 155) (ci := 9) (k := 1) (w := .null) (by decide +kernel) (by decide +kernel) (fit_I _) (fun σ19 => ?_)
      refine b_run [(102, .aload_n 0, 0, 0, .null)] (pc' := 103) (ls' := [some (.ref 1315), some (.int y1), some (.int y2), none]) (st' := [.ref 1315]) (by decide +kernel) rfl ?_
      refine b_gI (q := 556) (ci := 9) (k := 35) (w := .null) (by decide +kernel) (by decide +kernel) (fun c20 => ?_)
      refine b_callI 234 1 [.int c20] (rest := []) (by decide +kernel) rfl rfl rfl (go_S rfl (by decide +kernel)) rfl (s234 hv F c20 σ19) (by decide) (fun c22 σ21 => ?_)
      exact b_ret (i := (.ireturn, 0, 0, .null)) (by decide +kernel) rfl rfl (fit_I _)
/-- TreeStoreModel.query(I)I -/
def f206 (F : Nat) (x1 : Int32) (σ : St) : Rs := cI (f182 F x1 σ) fun c2 σ1 => 
    if c2 = 0 then cI (f172 F 1 σ1) fun c4 σ3 => oI c4 σ3
    else cI (f207 F σ1) fun c6 σ5 => 
    if c6 = 0 then cI (f172 F 2 σ5) fun c8 σ7 => oI c8 σ7
    else lt (uI σ5 1315 0 0) fun σ9 => lt (σ9.1 1315 36) fun c10 => f206_39 F F x1 (c10 - 1) σ9
theorem s206 {sc : aSc} (hv : vOk sc) (F : Nat) (x1 : Int32) (σ : St) : bEx sc 12 206 0 [some (.ref 1315), some (.int x1), none, none] [] σ (f206 F x1 σ) := by
  unfold f206
  refine b_run [(0, .aload_n 0, 0, 0, .null), (1, .iload_n 1, 0, 0, .null)] (pc' := 2) (ls' := [some (.ref 1315), some (.int x1), none, none]) (st' := [.int x1, .ref 1315]) (by decide +kernel) rfl ?_
  refine b_callI 182 2 [.ref 1315, .int x1] (rest := []) (by decide +kernel) rfl rfl rfl (go_O rfl (by decide +kernel) (by decide +kernel : isO 1315 9 = true)) rfl (s182 hv F x1 σ) (by decide) (fun c2 σ1 => ?_)
  refine b_izF (c := .ne) (o := 9) (t := 14) (y := 0) (w := .null) (by decide +kernel) cmp_ne (fun _ => ?_) (fun _ => ?_)
  · refine b_run [(8, .aload_n 0, 0, 0, .null), (9, .iconst 1, 0, 0, .null)] (pc' := 10) (ls' := [some (.ref 1315), some (.int x1), none, none]) (st' := [.int 1, .ref 1315]) (by decide +kernel) rfl ?_
    refine b_callI 172 2 [.ref 1315, .int 1] (rest := []) (by decide +kernel) rfl rfl rfl (go_O rfl (by decide +kernel) (by decide +kernel : isO 1315 9 = true)) rfl (s172 hv F 1 σ1) (by decide) (fun c4 σ3 => ?_)
    exact b_ret (i := (.ireturn, 0, 0, .null)) (by decide +kernel) rfl rfl (fit_I _)
  · refine b_run [(14, .aload_n 0, 0, 0, .null)] (pc' := 15) (ls' := [some (.ref 1315), some (.int x1), none, none]) (st' := [.ref 1315]) (by decide +kernel) rfl ?_
    refine b_callI 207 1 [.ref 1315] (rest := []) (by decide +kernel) rfl rfl rfl (go_O rfl (by decide +kernel) (by decide +kernel : isO 1315 9 = true)) rfl (s207 hv F σ1) (by decide) (fun c6 σ5 => ?_)
    refine b_izF (c := .ne) (o := 9) (t := 27) (y := 0) (w := .null) (by decide +kernel) cmp_ne (fun _ => ?_) (fun _ => ?_)
    · refine b_run [(21, .aload_n 0, 0, 0, .null), (22, .iconst 2, 0, 0, .null)] (pc' := 23) (ls' := [some (.ref 1315), some (.int x1), none, none]) (st' := [.int 2, .ref 1315]) (by decide +kernel) rfl ?_
      refine b_callI 172 2 [.ref 1315, .int 2] (rest := []) (by decide +kernel) rfl rfl rfl (go_O rfl (by decide +kernel) (by decide +kernel : isO 1315 9 = true)) rfl (s172 hv F 2 σ5) (by decide) (fun c8 σ7 => ?_)
      exact b_ret (i := (.ireturn, 0, 0, .null)) (by decide +kernel) rfl rfl (fit_I _)
    · refine b_run [(27, .aload_n 0, 0, 0, .null), (28, .iconst 0, 0, 0, .null)] (pc' := 29) (ls' := [some (.ref 1315), some (.int x1), none, none]) (st' := [.int 0, .ref 1315]) (by decide +kernel) rfl ?_
      refine b_pI (q := 152) (ci := 9) (k := 0) (w := .null) (by decide +kernel) (by decide +kernel) (fit_I _) (fun σ9 => ?_)
      refine b_run [(32, .aload_n 0, 0, 0, .null)] (pc' := 33) (ls' := [some (.ref 1315), some (.int x1), none, none]) (st' := [.ref 1315]) (by decide +kernel) rfl ?_
      refine b_gI (q := 401) (ci := 9) (k := 36) (w := .null) (by decide +kernel) (by decide +kernel) (fun c10 => ?_)
      refine b_run [(36, .iconst 1, 0, 0, .null), (37, .isub, 0, 0, .null), (38, .istore_n 2, 0, 0, .null)] (pc' := 39) (ls' := [some (.ref 1315), some (.int x1), some (.int (c10 - 1)), none]) (st' := []) (by decide +kernel) rfl ?_
      exact b_wk (wS (wS (wS (wN w0)))) (s206_39 hv F F x1 (c10 - 1) σ9)
def f247_49 (F : Nat) (k9 : Int32 → Int32 → Int32 → St → Rs) (y1 : Int32) (y2 : Int32) (y3 : Int32) (σ : St) : Rs := k9 y1 y2 (y3 + 1) σ
theorem s247_49 {sc : aSc} (hv : vOk sc) (F : Nat) (k9 : Int32 → Int32 → Int32 → St → Rs) (hk9 : ∀ y1 y2 y3 σ, bEx sc 1 247 9 [some (.ref 1315), some (.int y1), some (.int y2), some (.int y3)] [] σ (k9 y1 y2 y3 σ)) (y1 : Int32) (y2 : Int32) (y3 : Int32) (σ : St) : bEx sc 1 247 49 [some (.ref 1315), some (.int y1), some (.int y2), some (.int y3)] [] σ (f247_49 F k9 y1 y2 y3 σ) := by
  unfold f247_49
  refine b_run [(49, .iinc 3 1, 0, 0, .null), (52, .goto (-43), 9, 0, .null)] (pc' := 9) (ls' := [some (.ref 1315), some (.int y1), some (.int y2), some (.int (y3 + 1))]) (st' := []) (by decide +kernel) rfl ?_
  exact b_wk (wS (wS (wS (wS w0)))) (hk9 y1 y2 (y3 + 1) σ)
def f247_9 (F : Nat) : Nat → Int32 → Int32 → Int32 → St → Rs
  | 0, _, _, _, _ => none
  | n + 1, y1, y2, y3, σ => lt (σ.1 1315 3) fun c2 => 
    if y3 < c2 then 
    lt (σ.1 1315 34) fun c3 => 
    if c3 = 0 then cI (f172 F 1 σ) fun c5 σ4 => oI c5 σ4
    else if y1 < 0 then cI (f172 F 1 σ) fun c7 σ6 => oI c7 σ6
    else lt (σ.1 1315 35) fun c8 => 
    if (c8 >>> (y3 &&& 31)) &&& 1 = 1 then 
    if y2 = 0 then oI y3 σ
    else f247_49 F (f247_9 F n) y1 (y2 + Int32.ofInt (-1)) y3 σ
    else f247_49 F (f247_9 F n) y1 y2 y3 σ
    else cI (f172 F 1 σ) fun c10 σ9 => oI c10 σ9
theorem s247_9 {sc : aSc} (hv : vOk sc) (F : Nat) : ∀ (n : Nat) (y1 : Int32) (y2 : Int32) (y3 : Int32) (σ : St), bEx sc 1 247 9 [some (.ref 1315), some (.int y1), some (.int y2), some (.int y3)] [] σ (f247_9 F n y1 y2 y3 σ) := by
  intro n
  induction n with
  | zero => intro y1 y2 y3 σ; exact b_none
  | succ n ih =>
    intro y1 y2 y3 σ
    rw [f247_9.eq_2]
    refine b_run [(9, .iload_n 3, 0, 0, .null), (10, .aload_n 0, 0, 0, .null)] (pc' := 11) (ls' := [some (.ref 1315), some (.int y1), some (.int y2), some (.int y3)]) (st' := [.ref 1315, .int y3]) (by decide +kernel) rfl ?_
    refine b_gI (q := 148) (ci := 9) (k := 3) (w := .null) (by decide +kernel) (by decide +kernel) (fun c2 => ?_)
    refine b_icF (c := .ge) (o := 41) (t := 55) (y := 0) (w := .null) (by decide +kernel) cmp_ge (fun _ => ?_) (fun _ => ?_)
    · refine b_run [(17, .aload_n 0, 0, 0, .null)] (pc' := 18) (ls' := [some (.ref 1315), some (.int y1), some (.int y2), some (.int y3)]) (st' := [.ref 1315]) (by decide +kernel) rfl ?_
      refine b_gI (q := 269) (ci := 9) (k := 34) (w := .null) (by decide +kernel) (by decide +kernel) (fun c3 => ?_)
      refine b_izT (c := .eq) (o := 34) (t := 55) (y := 0) (w := .null) (by decide +kernel) cmp_eq (fun _ => ?_) (fun _ => ?_)
      · refine b_run [(55, .aload_n 0, 0, 0, .null), (56, .iconst 1, 0, 0, .null)] (pc' := 57) (ls' := [some (.ref 1315), some (.int y1), some (.int y2), some (.int y3)]) (st' := [.int 1, .ref 1315]) (by decide +kernel) rfl ?_
        refine b_callI 172 2 [.ref 1315, .int 1] (rest := []) (by decide +kernel) rfl rfl rfl (go_O rfl (by decide +kernel) (by decide +kernel : isO 1315 9 = true)) rfl (s172 hv F 1 σ) (by decide) (fun c5 σ4 => ?_)
        exact b_ret (i := (.ireturn, 0, 0, .null)) (by decide +kernel) rfl rfl (fit_I _)
      · refine b_run [(24, .iload_n 1, 0, 0, .null)] (pc' := 25) (ls' := [some (.ref 1315), some (.int y1), some (.int y2), some (.int y3)]) (st' := [.int y1]) (by decide +kernel) rfl ?_
        refine b_izT (c := .lt) (o := 30) (t := 55) (y := 0) (w := .null) (by decide +kernel) cmp_lt (fun _ => ?_) (fun _ => ?_)
        · refine b_run [(55, .aload_n 0, 0, 0, .null), (56, .iconst 1, 0, 0, .null)] (pc' := 57) (ls' := [some (.ref 1315), some (.int y1), some (.int y2), some (.int y3)]) (st' := [.int 1, .ref 1315]) (by decide +kernel) rfl ?_
          refine b_callI 172 2 [.ref 1315, .int 1] (rest := []) (by decide +kernel) rfl rfl rfl (go_O rfl (by decide +kernel) (by decide +kernel : isO 1315 9 = true)) rfl (s172 hv F 1 σ) (by decide) (fun c7 σ6 => ?_)
          exact b_ret (i := (.ireturn, 0, 0, .null)) (by decide +kernel) rfl rfl (fit_I _)
        · refine b_run [(28, .aload_n 0, 0, 0, .null)] (pc' := 29) (ls' := [some (.ref 1315), some (.int y1), some (.int y2), some (.int y3)]) (st' := [.ref 1315]) (by decide +kernel) rfl ?_
          refine b_gI (q := 556) (ci := 9) (k := 35) (w := .null) (by decide +kernel) (by decide +kernel) (fun c8 => ?_)
          refine b_run [(32, .iload_n 3, 0, 0, .null), (33, .ishr, 0, 0, .null), (34, .iconst 1, 0, 0, .null), (35, .iand, 0, 0, .null), (36, .iconst 1, 0, 0, .null)] (pc' := 37) (ls' := [some (.ref 1315), some (.int y1), some (.int y2), some (.int y3)]) (st' := [.int 1, .int ((c8 >>> (y3 &&& 31)) &&& 1)]) (by decide +kernel) rfl ?_
          refine b_icF (c := .ne) (o := 12) (t := 49) (y := 0) (w := .null) (by decide +kernel) cmp_ne (fun _ => ?_) (fun _ => ?_)
          · refine b_run [(40, .iload_n 2, 0, 0, .null)] (pc' := 41) (ls' := [some (.ref 1315), some (.int y1), some (.int y2), some (.int y3)]) (st' := [.int y2]) (by decide +kernel) rfl ?_
            refine b_izF (c := .ne) (o := 5) (t := 46) (y := 0) (w := .null) (by decide +kernel) cmp_ne (fun _ => ?_) (fun _ => ?_)
            · refine b_run [(44, .iload_n 3, 0, 0, .null)] (pc' := 45) (ls' := [some (.ref 1315), some (.int y1), some (.int y2), some (.int y3)]) (st' := [.int y3]) (by decide +kernel) rfl ?_
              exact b_ret (i := (.ireturn, 0, 0, .null)) (by decide +kernel) rfl rfl (fit_I _)
            · refine b_run [(46, .iinc 2 (-1), 0, 0, .null)] (pc' := 49) (ls' := [some (.ref 1315), some (.int y1), some (.int (y2 + Int32.ofInt (-1))), some (.int y3)]) (st' := []) (by decide +kernel) rfl ?_
              exact b_wk (wS (wS (wS (wS w0)))) (s247_49 hv F (f247_9 F n) ih y1 (y2 + Int32.ofInt (-1)) y3 σ)
          · exact b_wk (wS (wS (wS (wS w0)))) (s247_49 hv F (f247_9 F n) ih y1 y2 y3 σ)
    · refine b_run [(55, .aload_n 0, 0, 0, .null), (56, .iconst 1, 0, 0, .null)] (pc' := 57) (ls' := [some (.ref 1315), some (.int y1), some (.int y2), some (.int y3)]) (st' := [.int 1, .ref 1315]) (by decide +kernel) rfl ?_
      refine b_callI 172 2 [.ref 1315, .int 1] (rest := []) (by decide +kernel) rfl rfl rfl (go_O rfl (by decide +kernel) (by decide +kernel : isO 1315 9 = true)) rfl (s172 hv F 1 σ) (by decide) (fun c10 σ9 => ?_)
      exact b_ret (i := (.ireturn, 0, 0, .null)) (by decide +kernel) rfl rfl (fit_I _)
/-- TreeStoreModel.result(I)I -/
def f247 (F : Nat) (x1 : Int32) (σ : St) : Rs := lt (uI σ 1315 0 0) fun σ1 => f247_9 F F x1 x1 0 σ1
theorem s247 {sc : aSc} (hv : vOk sc) (F : Nat) (x1 : Int32) (σ : St) : bEx sc 1 247 0 [some (.ref 1315), some (.int x1), none, none] [] σ (f247 F x1 σ) := by
  unfold f247
  refine b_run [(0, .aload_n 0, 0, 0, .null), (1, .iconst 0, 0, 0, .null)] (pc' := 2) (ls' := [some (.ref 1315), some (.int x1), none, none]) (st' := [.int 0, .ref 1315]) (by decide +kernel) rfl ?_
  refine b_pI (q := 152) (ci := 9) (k := 0) (w := .null) (by decide +kernel) (by decide +kernel) (fit_I _) (fun σ1 => ?_)
  refine b_run [(5, .iload_n 1, 0, 0, .null), (6, .istore_n 2, 0, 0, .null), (7, .iconst 0, 0, 0, .null), (8, .istore_n 3, 0, 0, .null)] (pc' := 9) (ls' := [some (.ref 1315), some (.int x1), some (.int x1), some (.int 0)]) (st' := []) (by decide +kernel) rfl ?_
  exact b_wk (wS (wS (wS (wS w0)))) (s247_9 hv F F x1 x1 0 σ1)
def f2_703 (F : Nat) (sc : aSc) (k23 : Int32 → St → Rs) (y4 : Int32) (σ : St) : Rs := k23 (y4 + 3) σ
theorem s2_703 (F : Nat) (sc : aSc) (hv : vOk sc) (hL : ¬ sc.1 = 99999) (k23 : Int32 → St → Rs) (hk23 : ∀ y4 σ, bEx sc 228 2 23 [some (.ref 0), some (.ref 1000), some (.ref 1315), some (.ref 1361), some (.int y4), none, none] [] σ (k23 y4 σ)) (y4 : Int32) (σ : St) : bEx sc 228 2 703 [some (.ref 0), some (.ref 1000), some (.ref 1315), some (.ref 1361), some (.int y4), none, none] [] σ (f2_703 F sc k23 y4 σ) := by
  unfold f2_703
  refine b_run [(703, .iinc 4 3, 0, 0, .null), (706, .goto (-683), 23, 0, .null)] (pc' := 23) (ls' := [some (.ref 0), some (.ref 1000), some (.ref 1315), some (.ref 1361), some (.int (y4 + 3)), none, none]) (st' := []) (by decide +kernel) rfl ?_
  exact b_wk (wS (wS (wS (wS (wS (wN (wN w0))))))) (hk23 (y4 + 3) σ)
def f2_221 (F : Nat) (sc : aSc) (k23 : Int32 → St → Rs) (y4 : Int32) (σ : St) : Rs := f2_703 F sc k23 y4 σ
theorem s2_221 (F : Nat) (sc : aSc) (hv : vOk sc) (hL : ¬ sc.1 = 99999) (k23 : Int32 → St → Rs) (hk23 : ∀ y4 σ, bEx sc 228 2 23 [some (.ref 0), some (.ref 1000), some (.ref 1315), some (.ref 1361), some (.int y4), none, none] [] σ (k23 y4 σ)) (y4 : Int32) (σ : St) : bEx sc 228 2 221 [some (.ref 0), some (.ref 1000), some (.ref 1315), some (.ref 1361), some (.int y4), none, none] [] σ (f2_221 F sc k23 y4 σ) := by
  unfold f2_221
  refine b_run [(221, .goto 482, 703, 0, .null)] (pc' := 703) (ls' := [some (.ref 0), some (.ref 1000), some (.ref 1315), some (.ref 1361), some (.int y4), none, none]) (st' := []) (by decide +kernel) rfl ?_
  exact b_wk (wS (wS (wS (wS (wS (wN (wN w0))))))) (s2_703 F sc hv hL k23 hk23 y4 σ)
def f2_289 (F : Nat) (sc : aSc) (k23 : Int32 → St → Rs) (y4 : Int32) (σ : St) : Rs := f2_703 F sc k23 y4 σ
theorem s2_289 (F : Nat) (sc : aSc) (hv : vOk sc) (hL : ¬ sc.1 = 99999) (k23 : Int32 → St → Rs) (hk23 : ∀ y4 σ, bEx sc 228 2 23 [some (.ref 0), some (.ref 1000), some (.ref 1315), some (.ref 1361), some (.int y4), none, none] [] σ (k23 y4 σ)) (y4 : Int32) (σ : St) : bEx sc 228 2 289 [some (.ref 0), some (.ref 1000), some (.ref 1315), some (.ref 1361), some (.int y4), none, none] [] σ (f2_289 F sc k23 y4 σ) := by
  unfold f2_289
  refine b_run [(289, .goto 414, 703, 0, .null)] (pc' := 703) (ls' := [some (.ref 0), some (.ref 1000), some (.ref 1315), some (.ref 1361), some (.int y4), none, none]) (st' := []) (by decide +kernel) rfl ?_
  exact b_wk (wS (wS (wS (wS (wS (wN (wN w0))))))) (s2_703 F sc hv hL k23 hk23 y4 σ)
def f2_345 (F : Nat) (sc : aSc) (k23 : Int32 → St → Rs) (y4 : Int32) (σ : St) : Rs := f2_703 F sc k23 y4 σ
theorem s2_345 (F : Nat) (sc : aSc) (hv : vOk sc) (hL : ¬ sc.1 = 99999) (k23 : Int32 → St → Rs) (hk23 : ∀ y4 σ, bEx sc 228 2 23 [some (.ref 0), some (.ref 1000), some (.ref 1315), some (.ref 1361), some (.int y4), none, none] [] σ (k23 y4 σ)) (y4 : Int32) (σ : St) : bEx sc 228 2 345 [some (.ref 0), some (.ref 1000), some (.ref 1315), some (.ref 1361), some (.int y4), none, none] [] σ (f2_345 F sc k23 y4 σ) := by
  unfold f2_345
  refine b_run [(345, .goto 358, 703, 0, .null)] (pc' := 703) (ls' := [some (.ref 0), some (.ref 1000), some (.ref 1315), some (.ref 1361), some (.int y4), none, none]) (st' := []) (by decide +kernel) rfl ?_
  exact b_wk (wS (wS (wS (wS (wS (wN (wN w0))))))) (s2_703 F sc hv hL k23 hk23 y4 σ)
def f2_401 (F : Nat) (sc : aSc) (k23 : Int32 → St → Rs) (y4 : Int32) (σ : St) : Rs := f2_703 F sc k23 y4 σ
theorem s2_401 (F : Nat) (sc : aSc) (hv : vOk sc) (hL : ¬ sc.1 = 99999) (k23 : Int32 → St → Rs) (hk23 : ∀ y4 σ, bEx sc 228 2 23 [some (.ref 0), some (.ref 1000), some (.ref 1315), some (.ref 1361), some (.int y4), none, none] [] σ (k23 y4 σ)) (y4 : Int32) (σ : St) : bEx sc 228 2 401 [some (.ref 0), some (.ref 1000), some (.ref 1315), some (.ref 1361), some (.int y4), none, none] [] σ (f2_401 F sc k23 y4 σ) := by
  unfold f2_401
  refine b_run [(401, .goto 302, 703, 0, .null)] (pc' := 703) (ls' := [some (.ref 0), some (.ref 1000), some (.ref 1315), some (.ref 1361), some (.int y4), none, none]) (st' := []) (by decide +kernel) rfl ?_
  exact b_wk (wS (wS (wS (wS (wS (wN (wN w0))))))) (s2_703 F sc hv hL k23 hk23 y4 σ)
def f2_457 (F : Nat) (sc : aSc) (k23 : Int32 → St → Rs) (y4 : Int32) (σ : St) : Rs := f2_703 F sc k23 y4 σ
theorem s2_457 (F : Nat) (sc : aSc) (hv : vOk sc) (hL : ¬ sc.1 = 99999) (k23 : Int32 → St → Rs) (hk23 : ∀ y4 σ, bEx sc 228 2 23 [some (.ref 0), some (.ref 1000), some (.ref 1315), some (.ref 1361), some (.int y4), none, none] [] σ (k23 y4 σ)) (y4 : Int32) (σ : St) : bEx sc 228 2 457 [some (.ref 0), some (.ref 1000), some (.ref 1315), some (.ref 1361), some (.int y4), none, none] [] σ (f2_457 F sc k23 y4 σ) := by
  unfold f2_457
  refine b_run [(457, .goto 246, 703, 0, .null)] (pc' := 703) (ls' := [some (.ref 0), some (.ref 1000), some (.ref 1315), some (.ref 1361), some (.int y4), none, none]) (st' := []) (by decide +kernel) rfl ?_
  exact b_wk (wS (wS (wS (wS (wS (wN (wN w0))))))) (s2_703 F sc hv hL k23 hk23 y4 σ)
def f2_513 (F : Nat) (sc : aSc) (k23 : Int32 → St → Rs) (y4 : Int32) (σ : St) : Rs := f2_703 F sc k23 y4 σ
theorem s2_513 (F : Nat) (sc : aSc) (hv : vOk sc) (hL : ¬ sc.1 = 99999) (k23 : Int32 → St → Rs) (hk23 : ∀ y4 σ, bEx sc 228 2 23 [some (.ref 0), some (.ref 1000), some (.ref 1315), some (.ref 1361), some (.int y4), none, none] [] σ (k23 y4 σ)) (y4 : Int32) (σ : St) : bEx sc 228 2 513 [some (.ref 0), some (.ref 1000), some (.ref 1315), some (.ref 1361), some (.int y4), none, none] [] σ (f2_513 F sc k23 y4 σ) := by
  unfold f2_513
  refine b_run [(513, .goto 190, 703, 0, .null)] (pc' := 703) (ls' := [some (.ref 0), some (.ref 1000), some (.ref 1315), some (.ref 1361), some (.int y4), none, none]) (st' := []) (by decide +kernel) rfl ?_
  exact b_wk (wS (wS (wS (wS (wS (wN (wN w0))))))) (s2_703 F sc hv hL k23 hk23 y4 σ)
def f2_23 (F : Nat) (sc : aSc) : Nat → Int32 → St → Rs
  | 0, _, _ => none
  | n + 1, y4, σ => if (Int32.ofNat sc.1) - 3 < y4 then oI 1 σ
    else if inB y4 sc.1 then lt (sc.2.1 y4.toNatClampNeg) fun c1 => 
    if c1 &&& 15 = 0 then 
    if inB (y4 + 1) sc.1 then lt (sc.2.1 (y4 + 1).toNatClampNeg) fun c2 => 
    if inB (y4 + 2) sc.1 then lt (sc.2.1 (y4 + 2).toNatClampNeg) fun c3 => 
    cI (f10 F ((((c2 : Int32).toInt64) <<< ((32 : Int32).toInt64 &&& 63)) ||| (((c3 : Int32).toInt64) &&& 4294967295)) σ) fun c5 σ4 => 
    if inB (y4 + 1) sc.1 then lt (sc.2.1 (y4 + 1).toNatClampNeg) fun c6 => 
    if inB (y4 + 2) sc.1 then lt (sc.2.1 (y4 + 2).toNatClampNeg) fun c7 => 
    cI (f145 F ((((c6 : Int32).toInt64) <<< ((32 : Int32).toInt64 &&& 63)) ||| (((c7 : Int32).toInt64) &&& 4294967295)) σ4) fun c9 σ8 => 
    if c5 = c9 then f2_703 F sc (f2_23 F sc n) y4 σ8
    else oI 0 σ8 else none else none else none else none
    else if c1 &&& 15 = 1 then cV (f13 F σ) fun σ10 => cV (f146 F σ10) fun σ12 => f2_703 F sc (f2_23 F sc n) y4 σ12
    else if c1 &&& 15 = 2 then 
    cI (f3 F σ) fun c15 σ14 => 
    cI (f147 F σ14) fun c17 σ16 => 
    cI (f144 F σ16) fun c19 σ18 => 
    if c19 = c15 then 
    if c15 = 0 then 
    if inB 0 1 then lt (σ18.2.1 1361 (0 : Int32).toNatClampNeg) fun c20 => 
    if lg_cmp c20 ((c17 : Int32).toInt64) = 0 then f2_221 F sc (f2_23 F sc n) y4 σ18
    else oI 0 σ18 else none
    else f2_221 F sc (f2_23 F sc n) y4 σ18
    else oI 0 σ18
    else if c1 &&& 15 = 3 then 
    if inB (y4 + 1) sc.1 then lt (sc.2.1 (y4 + 1).toNatClampNeg) fun c21 => 
    if inB (y4 + 2) sc.1 then lt (sc.2.1 (y4 + 2).toNatClampNeg) fun c22 => 
    cI (f4 F c21 c22 σ) fun c24 σ23 => 
    if inB (y4 + 1) sc.1 then lt (sc.2.1 (y4 + 1).toNatClampNeg) fun c25 => 
    if inB (y4 + 2) sc.1 then lt (sc.2.1 (y4 + 2).toNatClampNeg) fun c26 => 
    cI (f181 F c25 c26 σ23) fun c28 σ27 => 
    cI (f144 F σ27) fun c30 σ29 => 
    if c30 = c24 then 
    if c24 = 0 then 
    if inB 0 1 then lt (σ29.2.1 1361 (0 : Int32).toNatClampNeg) fun c31 => 
    if lg_cmp c31 ((c28 : Int32).toInt64) = 0 then f2_289 F sc (f2_23 F sc n) y4 σ29
    else oI 0 σ29 else none
    else f2_289 F sc (f2_23 F sc n) y4 σ29
    else oI 0 σ29 else none else none else none else none
    else if c1 &&& 15 = 4 then 
    if inB (y4 + 1) sc.1 then lt (sc.2.1 (y4 + 1).toNatClampNeg) fun c32 => 
    cI (f5 F c32 σ) fun c34 σ33 => 
    if inB (y4 + 1) sc.1 then lt (sc.2.1 (y4 + 1).toNatClampNeg) fun c35 => 
    cI (f186 F c35 σ33) fun c37 σ36 => 
    cI (f144 F σ36) fun c39 σ38 => 
    if c39 = c34 then 
    if c34 = 0 then 
    if inB 0 1 then lt (σ38.2.1 1361 (0 : Int32).toNatClampNeg) fun c40 => 
    if lg_cmp c40 ((c37 : Int32).toInt64) = 0 then f2_345 F sc (f2_23 F sc n) y4 σ38
    else oI 0 σ38 else none
    else f2_345 F sc (f2_23 F sc n) y4 σ38
    else oI 0 σ38 else none else none
    else if c1 &&& 15 = 5 then 
    if inB (y4 + 1) sc.1 then lt (sc.2.1 (y4 + 1).toNatClampNeg) fun c41 => 
    cI (f6 F c41 σ) fun c43 σ42 => 
    if inB (y4 + 1) sc.1 then lt (sc.2.1 (y4 + 1).toNatClampNeg) fun c44 => 
    cI (f187 F c44 σ42) fun c46 σ45 => 
    cI (f144 F σ45) fun c48 σ47 => 
    if c48 = c43 then 
    if c43 = 0 then 
    if inB 0 1 then lt (σ47.2.1 1361 (0 : Int32).toNatClampNeg) fun c49 => 
    if lg_cmp c49 ((c46 : Int32).toInt64) = 0 then f2_401 F sc (f2_23 F sc n) y4 σ47
    else oI 0 σ47 else none
    else f2_401 F sc (f2_23 F sc n) y4 σ47
    else oI 0 σ47 else none else none
    else if c1 &&& 15 = 6 then 
    if inB (y4 + 1) sc.1 then lt (sc.2.1 (y4 + 1).toNatClampNeg) fun c50 => 
    cI (f7 F c50 σ) fun c52 σ51 => 
    if inB (y4 + 1) sc.1 then lt (sc.2.1 (y4 + 1).toNatClampNeg) fun c53 => 
    cI (f206 F c53 σ51) fun c55 σ54 => 
    cI (f144 F σ54) fun c57 σ56 => 
    if c57 = c52 then 
    if c52 = 0 then 
    if inB 0 1 then lt (σ56.2.1 1361 (0 : Int32).toNatClampNeg) fun c58 => 
    if lg_cmp c58 ((c55 : Int32).toInt64) = 0 then f2_457 F sc (f2_23 F sc n) y4 σ56
    else oI 0 σ56 else none
    else f2_457 F sc (f2_23 F sc n) y4 σ56
    else oI 0 σ56 else none else none
    else if c1 &&& 15 = 7 then 
    if inB (y4 + 1) sc.1 then lt (sc.2.1 (y4 + 1).toNatClampNeg) fun c59 => 
    cI (f8 F c59 σ) fun c61 σ60 => 
    if inB (y4 + 1) sc.1 then lt (sc.2.1 (y4 + 1).toNatClampNeg) fun c62 => 
    cI (f247 F c62 σ60) fun c64 σ63 => 
    cI (f144 F σ63) fun c66 σ65 => 
    if c66 = c61 then 
    if c61 = 0 then 
    if inB 0 1 then lt (σ65.2.1 1361 (0 : Int32).toNatClampNeg) fun c67 => 
    if lg_cmp c67 ((c64 : Int32).toInt64) = 0 then f2_513 F sc (f2_23 F sc n) y4 σ65
    else oI 0 σ65 else none
    else f2_513 F sc (f2_23 F sc n) y4 σ65
    else oI 0 σ65 else none else none
    else if c1 &&& 15 = 8 then 
    cI (f14 F σ) fun c69 σ68 => 
    cI (f190 F σ68) fun c71 σ70 => 
    if c69 = c71 then f2_703 F sc (f2_23 F sc n) y4 σ70
    else oI 0 σ70
    else if c1 &&& 15 = 9 then 
    if inB (y4 + 1) sc.1 then lt (sc.2.1 (y4 + 1).toNatClampNeg) fun c72 => 
    cI (f15 F c72 σ) fun c74 σ73 => 
    if inB (y4 + 1) sc.1 then lt (sc.2.1 (y4 + 1).toNatClampNeg) fun c75 => 
    cI (f191 F c75 σ73) fun c77 σ76 => 
    if c74 = c77 then f2_703 F sc (f2_23 F sc n) y4 σ76
    else oI 0 σ76 else none else none
    else if c1 &&& 15 = 10 then 
    if inB (y4 + 1) sc.1 then lt (sc.2.1 (y4 + 1).toNatClampNeg) fun c78 => 
    cI (f16 F c78 σ) fun c80 σ79 => 
    if inB (y4 + 1) sc.1 then lt (sc.2.1 (y4 + 1).toNatClampNeg) fun c81 => 
    cI (f192 F c81 σ79) fun c83 σ82 => 
    if c80 = c83 then f2_703 F sc (f2_23 F sc n) y4 σ82
    else oI 0 σ82 else none else none
    else if c1 &&& 15 = 11 then 
    if inB (y4 + 1) sc.1 then lt (sc.2.1 (y4 + 1).toNatClampNeg) fun c84 => 
    cI (f17 F c84 σ) fun c86 σ85 => 
    if inB (y4 + 1) sc.1 then lt (sc.2.1 (y4 + 1).toNatClampNeg) fun c87 => 
    cI (f193 F c87 σ85) fun c89 σ88 => 
    if c86 = c89 then f2_703 F sc (f2_23 F sc n) y4 σ88
    else oI 0 σ88 else none else none
    else if c1 &&& 15 = 12 then 
    if inB (y4 + 1) sc.1 then lt (sc.2.1 (y4 + 1).toNatClampNeg) fun c90 => 
    if inB (y4 + 2) sc.1 then lt (sc.2.1 (y4 + 2).toNatClampNeg) fun c91 => 
    cI (f18 F c90 c91 σ) fun c93 σ92 => 
    if inB (y4 + 1) sc.1 then lt (sc.2.1 (y4 + 1).toNatClampNeg) fun c94 => 
    if inB (y4 + 2) sc.1 then lt (sc.2.1 (y4 + 2).toNatClampNeg) fun c95 => 
    cI (f194 F c94 c95 σ92) fun c97 σ96 => 
    if c93 = c97 then f2_703 F sc (f2_23 F sc n) y4 σ96
    else oI 0 σ96 else none else none else none else none
    else if c1 &&& 15 = 13 then 
    if inB (y4 + 1) sc.1 then lt (sc.2.1 (y4 + 1).toNatClampNeg) fun c98 => 
    if inB (y4 + 2) sc.1 then lt (sc.2.1 (y4 + 2).toNatClampNeg) fun c99 => 
    cI (f19 F c98 c99 σ) fun c101 σ100 => 
    if inB (y4 + 1) sc.1 then lt (sc.2.1 (y4 + 1).toNatClampNeg) fun c102 => 
    if inB (y4 + 2) sc.1 then lt (sc.2.1 (y4 + 2).toNatClampNeg) fun c103 => 
    cI (f195 F c102 c103 σ100) fun c105 σ104 => 
    if c101 = c105 then f2_703 F sc (f2_23 F sc n) y4 σ104
    else oI 0 σ104 else none else none else none else none
    else if c1 &&& 15 = 14 then 
    if inB (y4 + 1) sc.1 then lt (sc.2.1 (y4 + 1).toNatClampNeg) fun c106 => 
    cI (f20 F c106 σ) fun c108 σ107 => 
    if inB (y4 + 1) sc.1 then lt (sc.2.1 (y4 + 1).toNatClampNeg) fun c109 => 
    cI (f197 F c109 σ107) fun c111 σ110 => 
    if c108 = c111 then f2_703 F sc (f2_23 F sc n) y4 σ110
    else oI 0 σ110 else none else none
    else f2_703 F sc (f2_23 F sc n) y4 σ else none
theorem s2_23 (F : Nat) (sc : aSc) (hv : vOk sc) (hL : ¬ sc.1 = 99999) : ∀ (n : Nat) (y4 : Int32) (σ : St), bEx sc 228 2 23 [some (.ref 0), some (.ref 1000), some (.ref 1315), some (.ref 1361), some (.int y4), none, none] [] σ (f2_23 F sc n y4 σ) := by
  intro n
  induction n with
  | zero => intro y4 σ; exact b_none
  | succ n ih =>
    intro y4 σ
    rw [f2_23.eq_2]
    refine b_run [(23, .iload 4, 0, 0, .null), (25, .aload_n 0, 0, 0, .null)] (pc' := 26) (ls' := [some (.ref 0), some (.ref 1000), some (.ref 1315), some (.ref 1361), some (.int y4), none, none]) (st' := [.ref 0, .int y4]) (by decide +kernel) rfl ?_
    refine b_scL hL (ci := 0) (y := 0) (w := .null) (by decide +kernel) ?_
    refine b_run [(27, .iconst 3, 0, 0, .null), (28, .isub, 0, 0, .null)] (pc' := 29) (ls' := [some (.ref 0), some (.ref 1000), some (.ref 1315), some (.ref 1361), some (.int y4), none, none]) (st' := [.int ((Int32.ofNat sc.1) - 3), .int y4]) (by decide +kernel) rfl ?_
    refine b_icT (c := .gt) (o := 680) (t := 709) (y := 0) (w := .null) (by decide +kernel) cmp_gt (fun _ => ?_) (fun _ => ?_)
    · refine b_run [(709, .iconst 1, 0, 0, .null)] (pc' := 710) (ls' := [some (.ref 0), some (.ref 1000), some (.ref 1315), some (.ref 1361), some (.int y4), none, none]) (st' := [.int 1]) (by decide +kernel) rfl ?_
      exact b_ret (i := (.ireturn, 0, 0, .null)) (by decide +kernel) rfl rfl (by decide +kernel)
    · refine b_run [(32, .aload_n 0, 0, 0, .null), (33, .iload 4, 0, 0, .null)] (pc' := 35) (ls' := [some (.ref 0), some (.ref 1000), some (.ref 1315), some (.ref 1361), some (.int y4), none, none]) (st' := [.int y4, .ref 0]) (by decide +kernel) rfl ?_
      refine b_guard (fun hb => ?_)
      refine b_scI hL (ci := 0) (y := 0) (w := .null) (by decide +kernel) hb (fun c1 => ?_)
      refine b_run [(36, .bipush 15, 0, 0, .null), (38, .iand, 0, 0, .null)] (pc' := 39) (ls' := [some (.ref 0), some (.ref 1000), some (.ref 1315), some (.ref 1361), some (.int y4), none, none]) (st' := [.int (c1 &&& 15)]) (by decide +kernel) rfl ?_
      refine b_ite (fun e0 => ?_) (fun e0 => ?_)
      · refine b_sw (dl := 664) (lo := 0) (hi' := 14) (offs := #[73, 130, 141, 185, 253, 309, 365, 421, 477, 490, 515, 540, 565, 602, 639]) (t := 73) (y := 0) (w := .null) (by decide +kernel) (swE e0 (by decide +kernel : aSw 39 664 0 14 #[73, 130, 141, 185, 253, 309, 365, 421, 477, 490, 515, 540, 565, 602, 639] 0 = some 112)) ?_
        refine b_run [(112, .aload_n 1, 0, 0, .null), (113, .aload_n 0, 0, 0, .null), (114, .iload 4, 0, 0, .null), (116, .iconst 1, 0, 0, .null), (117, .iadd, 0, 0, .null)] (pc' := 118) (ls' := [some (.ref 0), some (.ref 1000), some (.ref 1315), some (.ref 1361), some (.int y4), none, none]) (st' := [.int (y4 + 1), .ref 0, .ref 1000]) (by decide +kernel) rfl ?_
        refine b_guard (fun hb => ?_)
        refine b_scI hL (ci := 0) (y := 0) (w := .null) (by decide +kernel) hb (fun c2 => ?_)
        refine b_run [(119, .i2l, 0, 0, .null), (120, .bipush 32, 0, 0, .null), (122, .lshl, 0, 0, .null), (123, .aload_n 0, 0, 0, .null), (124, .iload 4, 0, 0, .null), (126, .iconst 2, 0, 0, .null), (127, .iadd, 0, 0, .null)] (pc' := 128) (ls' := [some (.ref 0), some (.ref 1000), some (.ref 1315), some (.ref 1361), some (.int y4), none, none]) (st' := [.int (y4 + 2), .ref 0, .long (((c2 : Int32).toInt64) <<< ((32 : Int32).toInt64 &&& 63)), .ref 1000]) (by decide +kernel) rfl ?_
        refine b_guard (fun hb => ?_)
        refine b_scI hL (ci := 0) (y := 0) (w := .null) (by decide +kernel) hb (fun c3 => ?_)
        refine b_run [(129, .i2l, 0, 0, .null), (130, .ldc2_w 42, 0, 0, .long 4294967295), (133, .land, 0, 0, .null), (134, .lor, 0, 0, .null)] (pc' := 135) (ls' := [some (.ref 0), some (.ref 1000), some (.ref 1315), some (.ref 1361), some (.int y4), none, none]) (st' := [.long ((((c2 : Int32).toInt64) <<< ((32 : Int32).toInt64 &&& 63)) ||| (((c3 : Int32).toInt64) &&& 4294967295)), .ref 1000]) (by decide +kernel) rfl ?_
        refine b_callI 10 2 [.ref 1000, .long ((((c2 : Int32).toInt64) <<< ((32 : Int32).toInt64 &&& 63)) ||| (((c3 : Int32).toInt64) &&& 4294967295))] (rest := []) (by decide +kernel) rfl rfl rfl (go_O rfl (by decide +kernel) (by decide +kernel : isO 1000 0 = true)) rfl (s10 hv F ((((c2 : Int32).toInt64) <<< ((32 : Int32).toInt64 &&& 63)) ||| (((c3 : Int32).toInt64) &&& 4294967295)) σ) (by decide) (fun c5 σ4 => ?_)
        refine b_run [(138, .aload_n 2, 0, 0, .null), (139, .aload_n 0, 0, 0, .null), (140, .iload 4, 0, 0, .null), (142, .iconst 1, 0, 0, .null), (143, .iadd, 0, 0, .null)] (pc' := 144) (ls' := [some (.ref 0), some (.ref 1000), some (.ref 1315), some (.ref 1361), some (.int y4), none, none]) (st' := [.int (y4 + 1), .ref 0, .ref 1315, .int c5]) (by decide +kernel) rfl ?_
        refine b_guard (fun hb => ?_)
        refine b_scI hL (ci := 0) (y := 0) (w := .null) (by decide +kernel) hb (fun c6 => ?_)
        refine b_run [(145, .i2l, 0, 0, .null), (146, .bipush 32, 0, 0, .null), (148, .lshl, 0, 0, .null), (149, .aload_n 0, 0, 0, .null), (150, .iload 4, 0, 0, .null), (152, .iconst 2, 0, 0, .null), (153, .iadd, 0, 0, .null)] (pc' := 154) (ls' := [some (.ref 0), some (.ref 1000), some (.ref 1315), some (.ref 1361), some (.int y4), none, none]) (st' := [.int (y4 + 2), .ref 0, .long (((c6 : Int32).toInt64) <<< ((32 : Int32).toInt64 &&& 63)), .ref 1315, .int c5]) (by decide +kernel) rfl ?_
        refine b_guard (fun hb => ?_)
        refine b_scI hL (ci := 0) (y := 0) (w := .null) (by decide +kernel) hb (fun c7 => ?_)
        refine b_run [(155, .i2l, 0, 0, .null), (156, .ldc2_w 42, 0, 0, .long 4294967295), (159, .land, 0, 0, .null), (160, .lor, 0, 0, .null)] (pc' := 161) (ls' := [some (.ref 0), some (.ref 1000), some (.ref 1315), some (.ref 1361), some (.int y4), none, none]) (st' := [.long ((((c6 : Int32).toInt64) <<< ((32 : Int32).toInt64 &&& 63)) ||| (((c7 : Int32).toInt64) &&& 4294967295)), .ref 1315, .int c5]) (by decide +kernel) rfl ?_
        refine b_callI 145 2 [.ref 1315, .long ((((c6 : Int32).toInt64) <<< ((32 : Int32).toInt64 &&& 63)) ||| (((c7 : Int32).toInt64) &&& 4294967295))] (rest := [.int c5]) (by decide +kernel) rfl rfl rfl (go_O rfl (by decide +kernel) (by decide +kernel : isO 1315 9 = true)) rfl (s145 hv F ((((c6 : Int32).toInt64) <<< ((32 : Int32).toInt64 &&& 63)) ||| (((c7 : Int32).toInt64) &&& 4294967295)) σ4) (by decide) (fun c9 σ8 => ?_)
        refine b_icT (c := .eq) (o := 539) (t := 703) (y := 0) (w := .null) (by decide +kernel) cmp_eq (fun _ => ?_) (fun _ => ?_)
        · exact b_wk (wS (wS (wS (wS (wS (wN (wN w0))))))) (s2_703 F sc hv hL (f2_23 F sc n) ih y4 σ8)
        · refine b_run [(167, .iconst 0, 0, 0, .null)] (pc' := 168) (ls' := [some (.ref 0), some (.ref 1000), some (.ref 1315), some (.ref 1361), some (.int y4), none, none]) (st' := [.int 0]) (by decide +kernel) rfl ?_
          exact b_ret (i := (.ireturn, 0, 0, .null)) (by decide +kernel) rfl rfl (by decide +kernel)
      refine b_ite (fun e1 => ?_) (fun e1 => ?_)
      · refine b_sw (dl := 664) (lo := 0) (hi' := 14) (offs := #[73, 130, 141, 185, 253, 309, 365, 421, 477, 490, 515, 540, 565, 602, 639]) (t := 73) (y := 0) (w := .null) (by decide +kernel) (swE e1 (by decide +kernel : aSw 39 664 0 14 #[73, 130, 141, 185, 253, 309, 365, 421, 477, 490, 515, 540, 565, 602, 639] 1 = some 169)) ?_
        refine b_run [(169, .aload_n 1, 0, 0, .null)] (pc' := 170) (ls' := [some (.ref 0), some (.ref 1000), some (.ref 1315), some (.ref 1361), some (.int y4), none, none]) (st' := [.ref 1000]) (by decide +kernel) rfl ?_
        refine b_callV 13 1 [.ref 1000] (rest := []) (by decide +kernel) rfl rfl rfl (go_O rfl (by decide +kernel) (by decide +kernel : isO 1000 0 = true)) rfl (s13 hv F σ) (by decide) (fun σ10 => ?_)
        refine b_run [(173, .aload_n 2, 0, 0, .null)] (pc' := 174) (ls' := [some (.ref 0), some (.ref 1000), some (.ref 1315), some (.ref 1361), some (.int y4), none, none]) (st' := [.ref 1315]) (by decide +kernel) rfl ?_
        refine b_callV 146 1 [.ref 1315] (rest := []) (by decide +kernel) rfl rfl rfl (go_O rfl (by decide +kernel) (by decide +kernel : isO 1315 9 = true)) rfl (s146 hv F σ10) (by decide) (fun σ12 => ?_)
        refine b_run [(177, .goto 526, 703, 0, .null)] (pc' := 703) (ls' := [some (.ref 0), some (.ref 1000), some (.ref 1315), some (.ref 1361), some (.int y4), none, none]) (st' := []) (by decide +kernel) rfl ?_
        exact b_wk (wS (wS (wS (wS (wS (wN (wN w0))))))) (s2_703 F sc hv hL (f2_23 F sc n) ih y4 σ12)
      refine b_ite (fun e2 => ?_) (fun e2 => ?_)
      · refine b_sw (dl := 664) (lo := 0) (hi' := 14) (offs := #[73, 130, 141, 185, 253, 309, 365, 421, 477, 490, 515, 540, 565, 602, 639]) (t := 73) (y := 0) (w := .null) (by decide +kernel) (swE e2 (by decide +kernel : aSw 39 664 0 14 #[73, 130, 141, 185, 253, 309, 365, 421, 477, 490, 515, 540, 565, 602, 639] 2 = some 180)) ?_
        refine b_run [(180, .aload_n 1, 0, 0, .null), (181, .aload_n 3, 0, 0, .null)] (pc' := 182) (ls' := [some (.ref 0), some (.ref 1000), some (.ref 1315), some (.ref 1361), some (.int y4), none, none]) (st' := [.ref 1361, .ref 1000]) (by decide +kernel) rfl ?_
        refine b_callI 3 2 [.ref 1000, .ref 1361] (rest := []) (by decide +kernel) rfl rfl rfl (go_S rfl (by decide +kernel)) rfl (s3 hv F σ) (by decide) (fun c15 σ14 => ?_)
        refine b_run [(185, .istore 5, 0, 0, .null), (187, .aload_n 2, 0, 0, .null)] (pc' := 188) (ls' := [some (.ref 0), some (.ref 1000), some (.ref 1315), some (.ref 1361), some (.int y4), some (.int c15), none]) (st' := [.ref 1315]) (by decide +kernel) rfl ?_
        refine b_callI 147 1 [.ref 1315] (rest := []) (by decide +kernel) rfl rfl rfl (go_O rfl (by decide +kernel) (by decide +kernel : isO 1315 9 = true)) rfl (s147 hv F σ14) (by decide) (fun c17 σ16 => ?_)
        refine b_run [(191, .istore 6, 0, 0, .null), (193, .aload_n 2, 0, 0, .null)] (pc' := 194) (ls' := [some (.ref 0), some (.ref 1000), some (.ref 1315), some (.ref 1361), some (.int y4), some (.int c15), some (.int c17)]) (st' := [.ref 1315]) (by decide +kernel) rfl ?_
        refine b_callI 144 1 [.ref 1315] (rest := []) (by decide +kernel) rfl rfl rfl (go_O rfl (by decide +kernel) (by decide +kernel : isO 1315 9 = true)) rfl (s144 hv F σ16) (by decide) (fun c19 σ18 => ?_)
        refine b_run [(197, .iload 5, 0, 0, .null)] (pc' := 199) (ls' := [some (.ref 0), some (.ref 1000), some (.ref 1315), some (.ref 1361), some (.int y4), some (.int c15), some (.int c17)]) (st' := [.int c15, .int c19]) (by decide +kernel) rfl ?_
        refine b_icT (c := .eq) (o := 5) (t := 204) (y := 0) (w := .null) (by decide +kernel) cmp_eq (fun _ => ?_) (fun _ => ?_)
        · refine b_run [(204, .iload 5, 0, 0, .null)] (pc' := 206) (ls' := [some (.ref 0), some (.ref 1000), some (.ref 1315), some (.ref 1361), some (.int y4), some (.int c15), some (.int c17)]) (st' := [.int c15]) (by decide +kernel) rfl ?_
          refine b_izF (c := .ne) (o := 15) (t := 221) (y := 0) (w := .null) (by decide +kernel) cmp_ne (fun _ => ?_) (fun _ => ?_)
          · refine b_run [(209, .aload_n 3, 0, 0, .null), (210, .iconst 0, 0, 0, .null)] (pc' := 211) (ls' := [some (.ref 0), some (.ref 1000), some (.ref 1315), some (.ref 1361), some (.int y4), some (.int c15), some (.int c17)]) (st' := [.int 0, .ref 1361]) (by decide +kernel) rfl ?_
            refine b_guard (fun hb => ?_)
            refine b_aL (ci := 0) (y := 0) (w := .null) (by decide +kernel) (by decide +kernel) hb (fun c20 => ?_)
            refine b_run [(212, .iload 6, 0, 0, .null), (214, .i2l, 0, 0, .null), (215, .lcmp, 0, 0, .null)] (pc' := 216) (ls' := [some (.ref 0), some (.ref 1000), some (.ref 1315), some (.ref 1361), some (.int y4), some (.int c15), some (.int c17)]) (st' := [.int (lg_cmp c20 ((c17 : Int32).toInt64))]) (by decide +kernel) rfl ?_
            refine b_izT (c := .eq) (o := 5) (t := 221) (y := 0) (w := .null) (by decide +kernel) cmp_eq (fun _ => ?_) (fun _ => ?_)
            · exact b_wk (wS (wS (wS (wS (wS (wN (wN w0))))))) (s2_221 F sc hv hL (f2_23 F sc n) ih y4 σ18)
            · refine b_run [(219, .iconst 0, 0, 0, .null)] (pc' := 220) (ls' := [some (.ref 0), some (.ref 1000), some (.ref 1315), some (.ref 1361), some (.int y4), some (.int c15), some (.int c17)]) (st' := [.int 0]) (by decide +kernel) rfl ?_
              exact b_ret (i := (.ireturn, 0, 0, .null)) (by decide +kernel) rfl rfl (by decide +kernel)
          · exact b_wk (wS (wS (wS (wS (wS (wN (wN w0))))))) (s2_221 F sc hv hL (f2_23 F sc n) ih y4 σ18)
        · refine b_run [(202, .iconst 0, 0, 0, .null)] (pc' := 203) (ls' := [some (.ref 0), some (.ref 1000), some (.ref 1315), some (.ref 1361), some (.int y4), some (.int c15), some (.int c17)]) (st' := [.int 0]) (by decide +kernel) rfl ?_
          exact b_ret (i := (.ireturn, 0, 0, .null)) (by decide +kernel) rfl rfl (by decide +kernel)
      refine b_ite (fun e3 => ?_) (fun e3 => ?_)
      · refine b_sw (dl := 664) (lo := 0) (hi' := 14) (offs := #[73, 130, 141, 185, 253, 309, 365, 421, 477, 490, 515, 540, 565, 602, 639]) (t := 73) (y := 0) (w := .null) (by decide +kernel) (swE e3 (by decide +kernel : aSw 39 664 0 14 #[73, 130, 141, 185, 253, 309, 365, 421, 477, 490, 515, 540, 565, 602, 639] 3 = some 224)) ?_
        refine b_run [(224, .aload_n 1, 0, 0, .null), (225, .aload_n 0, 0, 0, .null), (226, .iload 4, 0, 0, .null), (228, .iconst 1, 0, 0, .null), (229, .iadd, 0, 0, .null)] (pc' := 230) (ls' := [some (.ref 0), some (.ref 1000), some (.ref 1315), some (.ref 1361), some (.int y4), none, none]) (st' := [.int (y4 + 1), .ref 0, .ref 1000]) (by decide +kernel) rfl ?_
        refine b_guard (fun hb => ?_)
        refine b_scI hL (ci := 0) (y := 0) (w := .null) (by decide +kernel) hb (fun c21 => ?_)
        refine b_run [(231, .aload_n 0, 0, 0, .null), (232, .iload 4, 0, 0, .null), (234, .iconst 2, 0, 0, .null), (235, .iadd, 0, 0, .null)] (pc' := 236) (ls' := [some (.ref 0), some (.ref 1000), some (.ref 1315), some (.ref 1361), some (.int y4), none, none]) (st' := [.int (y4 + 2), .ref 0, .int c21, .ref 1000]) (by decide +kernel) rfl ?_
        refine b_guard (fun hb => ?_)
        refine b_scI hL (ci := 0) (y := 0) (w := .null) (by decide +kernel) hb (fun c22 => ?_)
        refine b_run [(237, .aload_n 3, 0, 0, .null)] (pc' := 238) (ls' := [some (.ref 0), some (.ref 1000), some (.ref 1315), some (.ref 1361), some (.int y4), none, none]) (st' := [.ref 1361, .int c22, .int c21, .ref 1000]) (by decide +kernel) rfl ?_
        refine b_callI 4 4 [.ref 1000, .int c21, .int c22, .ref 1361] (rest := []) (by decide +kernel) rfl rfl rfl (go_S rfl (by decide +kernel)) rfl (s4 hv F c21 c22 σ) (by decide) (fun c24 σ23 => ?_)
        refine b_run [(241, .istore 5, 0, 0, .null), (243, .aload_n 2, 0, 0, .null), (244, .aload_n 0, 0, 0, .null), (245, .iload 4, 0, 0, .null), (247, .iconst 1, 0, 0, .null), (248, .iadd, 0, 0, .null)] (pc' := 249) (ls' := [some (.ref 0), some (.ref 1000), some (.ref 1315), some (.ref 1361), some (.int y4), some (.int c24), none]) (st' := [.int (y4 + 1), .ref 0, .ref 1315]) (by decide +kernel) rfl ?_
        refine b_guard (fun hb => ?_)
        refine b_scI hL (ci := 0) (y := 0) (w := .null) (by decide +kernel) hb (fun c25 => ?_)
        refine b_run [(250, .aload_n 0, 0, 0, .null), (251, .iload 4, 0, 0, .null), (253, .iconst 2, 0, 0, .null), (254, .iadd, 0, 0, .null)] (pc' := 255) (ls' := [some (.ref 0), some (.ref 1000), some (.ref 1315), some (.ref 1361), some (.int y4), some (.int c24), none]) (st' := [.int (y4 + 2), .ref 0, .int c25, .ref 1315]) (by decide +kernel) rfl ?_
        refine b_guard (fun hb => ?_)
        refine b_scI hL (ci := 0) (y := 0) (w := .null) (by decide +kernel) hb (fun c26 => ?_)
        refine b_callI 181 3 [.ref 1315, .int c25, .int c26] (rest := []) (by decide +kernel) rfl rfl rfl (go_O rfl (by decide +kernel) (by decide +kernel : isO 1315 9 = true)) rfl (s181 hv F c25 c26 σ23) (by decide) (fun c28 σ27 => ?_)
        refine b_run [(259, .istore 6, 0, 0, .null), (261, .aload_n 2, 0, 0, .null)] (pc' := 262) (ls' := [some (.ref 0), some (.ref 1000), some (.ref 1315), some (.ref 1361), some (.int y4), some (.int c24), some (.int c28)]) (st' := [.ref 1315]) (by decide +kernel) rfl ?_
        refine b_callI 144 1 [.ref 1315] (rest := []) (by decide +kernel) rfl rfl rfl (go_O rfl (by decide +kernel) (by decide +kernel : isO 1315 9 = true)) rfl (s144 hv F σ27) (by decide) (fun c30 σ29 => ?_)
        refine b_run [(265, .iload 5, 0, 0, .null)] (pc' := 267) (ls' := [some (.ref 0), some (.ref 1000), some (.ref 1315), some (.ref 1361), some (.int y4), some (.int c24), some (.int c28)]) (st' := [.int c24, .int c30]) (by decide +kernel) rfl ?_
        refine b_icT (c := .eq) (o := 5) (t := 272) (y := 0) (w := .null) (by decide +kernel) cmp_eq (fun _ => ?_) (fun _ => ?_)
        · refine b_run [(272, .iload 5, 0, 0, .null)] (pc' := 274) (ls' := [some (.ref 0), some (.ref 1000), some (.ref 1315), some (.ref 1361), some (.int y4), some (.int c24), some (.int c28)]) (st' := [.int c24]) (by decide +kernel) rfl ?_
          refine b_izF (c := .ne) (o := 15) (t := 289) (y := 0) (w := .null) (by decide +kernel) cmp_ne (fun _ => ?_) (fun _ => ?_)
          · refine b_run [(277, .aload_n 3, 0, 0, .null), (278, .iconst 0, 0, 0, .null)] (pc' := 279) (ls' := [some (.ref 0), some (.ref 1000), some (.ref 1315), some (.ref 1361), some (.int y4), some (.int c24), some (.int c28)]) (st' := [.int 0, .ref 1361]) (by decide +kernel) rfl ?_
            refine b_guard (fun hb => ?_)
            refine b_aL (ci := 0) (y := 0) (w := .null) (by decide +kernel) (by decide +kernel) hb (fun c31 => ?_)
            refine b_run [(280, .iload 6, 0, 0, .null), (282, .i2l, 0, 0, .null), (283, .lcmp, 0, 0, .null)] (pc' := 284) (ls' := [some (.ref 0), some (.ref 1000), some (.ref 1315), some (.ref 1361), some (.int y4), some (.int c24), some (.int c28)]) (st' := [.int (lg_cmp c31 ((c28 : Int32).toInt64))]) (by decide +kernel) rfl ?_
            refine b_izT (c := .eq) (o := 5) (t := 289) (y := 0) (w := .null) (by decide +kernel) cmp_eq (fun _ => ?_) (fun _ => ?_)
            · exact b_wk (wS (wS (wS (wS (wS (wN (wN w0))))))) (s2_289 F sc hv hL (f2_23 F sc n) ih y4 σ29)
            · refine b_run [(287, .iconst 0, 0, 0, .null)] (pc' := 288) (ls' := [some (.ref 0), some (.ref 1000), some (.ref 1315), some (.ref 1361), some (.int y4), some (.int c24), some (.int c28)]) (st' := [.int 0]) (by decide +kernel) rfl ?_
              exact b_ret (i := (.ireturn, 0, 0, .null)) (by decide +kernel) rfl rfl (by decide +kernel)
          · exact b_wk (wS (wS (wS (wS (wS (wN (wN w0))))))) (s2_289 F sc hv hL (f2_23 F sc n) ih y4 σ29)
        · refine b_run [(270, .iconst 0, 0, 0, .null)] (pc' := 271) (ls' := [some (.ref 0), some (.ref 1000), some (.ref 1315), some (.ref 1361), some (.int y4), some (.int c24), some (.int c28)]) (st' := [.int 0]) (by decide +kernel) rfl ?_
          exact b_ret (i := (.ireturn, 0, 0, .null)) (by decide +kernel) rfl rfl (by decide +kernel)
      refine b_ite (fun e4 => ?_) (fun e4 => ?_)
      · refine b_sw (dl := 664) (lo := 0) (hi' := 14) (offs := #[73, 130, 141, 185, 253, 309, 365, 421, 477, 490, 515, 540, 565, 602, 639]) (t := 73) (y := 0) (w := .null) (by decide +kernel) (swE e4 (by decide +kernel : aSw 39 664 0 14 #[73, 130, 141, 185, 253, 309, 365, 421, 477, 490, 515, 540, 565, 602, 639] 4 = some 292)) ?_
        refine b_run [(292, .aload_n 1, 0, 0, .null), (293, .aload_n 0, 0, 0, .null), (294, .iload 4, 0, 0, .null), (296, .iconst 1, 0, 0, .null), (297, .iadd, 0, 0, .null)] (pc' := 298) (ls' := [some (.ref 0), some (.ref 1000), some (.ref 1315), some (.ref 1361), some (.int y4), none, none]) (st' := [.int (y4 + 1), .ref 0, .ref 1000]) (by decide +kernel) rfl ?_
        refine b_guard (fun hb => ?_)
        refine b_scI hL (ci := 0) (y := 0) (w := .null) (by decide +kernel) hb (fun c32 => ?_)
        refine b_run [(299, .aload_n 3, 0, 0, .null)] (pc' := 300) (ls' := [some (.ref 0), some (.ref 1000), some (.ref 1315), some (.ref 1361), some (.int y4), none, none]) (st' := [.ref 1361, .int c32, .ref 1000]) (by decide +kernel) rfl ?_
        refine b_callI 5 3 [.ref 1000, .int c32, .ref 1361] (rest := []) (by decide +kernel) rfl rfl rfl (go_S rfl (by decide +kernel)) rfl (s5 hv F c32 σ) (by decide) (fun c34 σ33 => ?_)
        refine b_run [(303, .istore 5, 0, 0, .null), (305, .aload_n 2, 0, 0, .null), (306, .aload_n 0, 0, 0, .null), (307, .iload 4, 0, 0, .null), (309, .iconst 1, 0, 0, .null), (310, .iadd, 0, 0, .null)] (pc' := 311) (ls' := [some (.ref 0), some (.ref 1000), some (.ref 1315), some (.ref 1361), some (.int y4), some (.int c34), none]) (st' := [.int (y4 + 1), .ref 0, .ref 1315]) (by decide +kernel) rfl ?_
        refine b_guard (fun hb => ?_)
        refine b_scI hL (ci := 0) (y := 0) (w := .null) (by decide +kernel) hb (fun c35 => ?_)
        refine b_callI 186 2 [.ref 1315, .int c35] (rest := []) (by decide +kernel) rfl rfl rfl (go_O rfl (by decide +kernel) (by decide +kernel : isO 1315 9 = true)) rfl (s186 hv F c35 σ33) (by decide) (fun c37 σ36 => ?_)
        refine b_run [(315, .istore 6, 0, 0, .null), (317, .aload_n 2, 0, 0, .null)] (pc' := 318) (ls' := [some (.ref 0), some (.ref 1000), some (.ref 1315), some (.ref 1361), some (.int y4), some (.int c34), some (.int c37)]) (st' := [.ref 1315]) (by decide +kernel) rfl ?_
        refine b_callI 144 1 [.ref 1315] (rest := []) (by decide +kernel) rfl rfl rfl (go_O rfl (by decide +kernel) (by decide +kernel : isO 1315 9 = true)) rfl (s144 hv F σ36) (by decide) (fun c39 σ38 => ?_)
        refine b_run [(321, .iload 5, 0, 0, .null)] (pc' := 323) (ls' := [some (.ref 0), some (.ref 1000), some (.ref 1315), some (.ref 1361), some (.int y4), some (.int c34), some (.int c37)]) (st' := [.int c34, .int c39]) (by decide +kernel) rfl ?_
        refine b_icT (c := .eq) (o := 5) (t := 328) (y := 0) (w := .null) (by decide +kernel) cmp_eq (fun _ => ?_) (fun _ => ?_)
        · refine b_run [(328, .iload 5, 0, 0, .null)] (pc' := 330) (ls' := [some (.ref 0), some (.ref 1000), some (.ref 1315), some (.ref 1361), some (.int y4), some (.int c34), some (.int c37)]) (st' := [.int c34]) (by decide +kernel) rfl ?_
          refine b_izF (c := .ne) (o := 15) (t := 345) (y := 0) (w := .null) (by decide +kernel) cmp_ne (fun _ => ?_) (fun _ => ?_)
          · refine b_run [(333, .aload_n 3, 0, 0, .null), (334, .iconst 0, 0, 0, .null)] (pc' := 335) (ls' := [some (.ref 0), some (.ref 1000), some (.ref 1315), some (.ref 1361), some (.int y4), some (.int c34), some (.int c37)]) (st' := [.int 0, .ref 1361]) (by decide +kernel) rfl ?_
            refine b_guard (fun hb => ?_)
            refine b_aL (ci := 0) (y := 0) (w := .null) (by decide +kernel) (by decide +kernel) hb (fun c40 => ?_)
            refine b_run [(336, .iload 6, 0, 0, .null), (338, .i2l, 0, 0, .null), (339, .lcmp, 0, 0, .null)] (pc' := 340) (ls' := [some (.ref 0), some (.ref 1000), some (.ref 1315), some (.ref 1361), some (.int y4), some (.int c34), some (.int c37)]) (st' := [.int (lg_cmp c40 ((c37 : Int32).toInt64))]) (by decide +kernel) rfl ?_
            refine b_izT (c := .eq) (o := 5) (t := 345) (y := 0) (w := .null) (by decide +kernel) cmp_eq (fun _ => ?_) (fun _ => ?_)
            · exact b_wk (wS (wS (wS (wS (wS (wN (wN w0))))))) (s2_345 F sc hv hL (f2_23 F sc n) ih y4 σ38)
            · refine b_run [(343, .iconst 0, 0, 0, .null)] (pc' := 344) (ls' := [some (.ref 0), some (.ref 1000), some (.ref 1315), some (.ref 1361), some (.int y4), some (.int c34), some (.int c37)]) (st' := [.int 0]) (by decide +kernel) rfl ?_
              exact b_ret (i := (.ireturn, 0, 0, .null)) (by decide +kernel) rfl rfl (by decide +kernel)
          · exact b_wk (wS (wS (wS (wS (wS (wN (wN w0))))))) (s2_345 F sc hv hL (f2_23 F sc n) ih y4 σ38)
        · refine b_run [(326, .iconst 0, 0, 0, .null)] (pc' := 327) (ls' := [some (.ref 0), some (.ref 1000), some (.ref 1315), some (.ref 1361), some (.int y4), some (.int c34), some (.int c37)]) (st' := [.int 0]) (by decide +kernel) rfl ?_
          exact b_ret (i := (.ireturn, 0, 0, .null)) (by decide +kernel) rfl rfl (by decide +kernel)
      refine b_ite (fun e5 => ?_) (fun e5 => ?_)
      · refine b_sw (dl := 664) (lo := 0) (hi' := 14) (offs := #[73, 130, 141, 185, 253, 309, 365, 421, 477, 490, 515, 540, 565, 602, 639]) (t := 73) (y := 0) (w := .null) (by decide +kernel) (swE e5 (by decide +kernel : aSw 39 664 0 14 #[73, 130, 141, 185, 253, 309, 365, 421, 477, 490, 515, 540, 565, 602, 639] 5 = some 348)) ?_
        refine b_run [(348, .aload_n 1, 0, 0, .null), (349, .aload_n 0, 0, 0, .null), (350, .iload 4, 0, 0, .null), (352, .iconst 1, 0, 0, .null), (353, .iadd, 0, 0, .null)] (pc' := 354) (ls' := [some (.ref 0), some (.ref 1000), some (.ref 1315), some (.ref 1361), some (.int y4), none, none]) (st' := [.int (y4 + 1), .ref 0, .ref 1000]) (by decide +kernel) rfl ?_
        refine b_guard (fun hb => ?_)
        refine b_scI hL (ci := 0) (y := 0) (w := .null) (by decide +kernel) hb (fun c41 => ?_)
        refine b_run [(355, .aload_n 3, 0, 0, .null)] (pc' := 356) (ls' := [some (.ref 0), some (.ref 1000), some (.ref 1315), some (.ref 1361), some (.int y4), none, none]) (st' := [.ref 1361, .int c41, .ref 1000]) (by decide +kernel) rfl ?_
        refine b_callI 6 3 [.ref 1000, .int c41, .ref 1361] (rest := []) (by decide +kernel) rfl rfl rfl (go_S rfl (by decide +kernel)) rfl (s6 hv F c41 σ) (by decide) (fun c43 σ42 => ?_)
        refine b_run [(359, .istore 5, 0, 0, .null), (361, .aload_n 2, 0, 0, .null), (362, .aload_n 0, 0, 0, .null), (363, .iload 4, 0, 0, .null), (365, .iconst 1, 0, 0, .null), (366, .iadd, 0, 0, .null)] (pc' := 367) (ls' := [some (.ref 0), some (.ref 1000), some (.ref 1315), some (.ref 1361), some (.int y4), some (.int c43), none]) (st' := [.int (y4 + 1), .ref 0, .ref 1315]) (by decide +kernel) rfl ?_
        refine b_guard (fun hb => ?_)
        refine b_scI hL (ci := 0) (y := 0) (w := .null) (by decide +kernel) hb (fun c44 => ?_)
        refine b_callI 187 2 [.ref 1315, .int c44] (rest := []) (by decide +kernel) rfl rfl rfl (go_O rfl (by decide +kernel) (by decide +kernel : isO 1315 9 = true)) rfl (s187 hv F c44 σ42) (by decide) (fun c46 σ45 => ?_)
        refine b_run [(371, .istore 6, 0, 0, .null), (373, .aload_n 2, 0, 0, .null)] (pc' := 374) (ls' := [some (.ref 0), some (.ref 1000), some (.ref 1315), some (.ref 1361), some (.int y4), some (.int c43), some (.int c46)]) (st' := [.ref 1315]) (by decide +kernel) rfl ?_
        refine b_callI 144 1 [.ref 1315] (rest := []) (by decide +kernel) rfl rfl rfl (go_O rfl (by decide +kernel) (by decide +kernel : isO 1315 9 = true)) rfl (s144 hv F σ45) (by decide) (fun c48 σ47 => ?_)
        refine b_run [(377, .iload 5, 0, 0, .null)] (pc' := 379) (ls' := [some (.ref 0), some (.ref 1000), some (.ref 1315), some (.ref 1361), some (.int y4), some (.int c43), some (.int c46)]) (st' := [.int c43, .int c48]) (by decide +kernel) rfl ?_
        refine b_icT (c := .eq) (o := 5) (t := 384) (y := 0) (w := .null) (by decide +kernel) cmp_eq (fun _ => ?_) (fun _ => ?_)
        · refine b_run [(384, .iload 5, 0, 0, .null)] (pc' := 386) (ls' := [some (.ref 0), some (.ref 1000), some (.ref 1315), some (.ref 1361), some (.int y4), some (.int c43), some (.int c46)]) (st' := [.int c43]) (by decide +kernel) rfl ?_
          refine b_izF (c := .ne) (o := 15) (t := 401) (y := 0) (w := .null) (by decide +kernel) cmp_ne (fun _ => ?_) (fun _ => ?_)
          · refine b_run [(389, .aload_n 3, 0, 0, .null), (390, .iconst 0, 0, 0, .null)] (pc' := 391) (ls' := [some (.ref 0), some (.ref 1000), some (.ref 1315), some (.ref 1361), some (.int y4), some (.int c43), some (.int c46)]) (st' := [.int 0, .ref 1361]) (by decide +kernel) rfl ?_
            refine b_guard (fun hb => ?_)
            refine b_aL (ci := 0) (y := 0) (w := .null) (by decide +kernel) (by decide +kernel) hb (fun c49 => ?_)
            refine b_run [(392, .iload 6, 0, 0, .null), (394, .i2l, 0, 0, .null), (395, .lcmp, 0, 0, .null)] (pc' := 396) (ls' := [some (.ref 0), some (.ref 1000), some (.ref 1315), some (.ref 1361), some (.int y4), some (.int c43), some (.int c46)]) (st' := [.int (lg_cmp c49 ((c46 : Int32).toInt64))]) (by decide +kernel) rfl ?_
            refine b_izT (c := .eq) (o := 5) (t := 401) (y := 0) (w := .null) (by decide +kernel) cmp_eq (fun _ => ?_) (fun _ => ?_)
            · exact b_wk (wS (wS (wS (wS (wS (wN (wN w0))))))) (s2_401 F sc hv hL (f2_23 F sc n) ih y4 σ47)
            · refine b_run [(399, .iconst 0, 0, 0, .null)] (pc' := 400) (ls' := [some (.ref 0), some (.ref 1000), some (.ref 1315), some (.ref 1361), some (.int y4), some (.int c43), some (.int c46)]) (st' := [.int 0]) (by decide +kernel) rfl ?_
              exact b_ret (i := (.ireturn, 0, 0, .null)) (by decide +kernel) rfl rfl (by decide +kernel)
          · exact b_wk (wS (wS (wS (wS (wS (wN (wN w0))))))) (s2_401 F sc hv hL (f2_23 F sc n) ih y4 σ47)
        · refine b_run [(382, .iconst 0, 0, 0, .null)] (pc' := 383) (ls' := [some (.ref 0), some (.ref 1000), some (.ref 1315), some (.ref 1361), some (.int y4), some (.int c43), some (.int c46)]) (st' := [.int 0]) (by decide +kernel) rfl ?_
          exact b_ret (i := (.ireturn, 0, 0, .null)) (by decide +kernel) rfl rfl (by decide +kernel)
      refine b_ite (fun e6 => ?_) (fun e6 => ?_)
      · refine b_sw (dl := 664) (lo := 0) (hi' := 14) (offs := #[73, 130, 141, 185, 253, 309, 365, 421, 477, 490, 515, 540, 565, 602, 639]) (t := 73) (y := 0) (w := .null) (by decide +kernel) (swE e6 (by decide +kernel : aSw 39 664 0 14 #[73, 130, 141, 185, 253, 309, 365, 421, 477, 490, 515, 540, 565, 602, 639] 6 = some 404)) ?_
        refine b_run [(404, .aload_n 1, 0, 0, .null), (405, .aload_n 0, 0, 0, .null), (406, .iload 4, 0, 0, .null), (408, .iconst 1, 0, 0, .null), (409, .iadd, 0, 0, .null)] (pc' := 410) (ls' := [some (.ref 0), some (.ref 1000), some (.ref 1315), some (.ref 1361), some (.int y4), none, none]) (st' := [.int (y4 + 1), .ref 0, .ref 1000]) (by decide +kernel) rfl ?_
        refine b_guard (fun hb => ?_)
        refine b_scI hL (ci := 0) (y := 0) (w := .null) (by decide +kernel) hb (fun c50 => ?_)
        refine b_run [(411, .aload_n 3, 0, 0, .null)] (pc' := 412) (ls' := [some (.ref 0), some (.ref 1000), some (.ref 1315), some (.ref 1361), some (.int y4), none, none]) (st' := [.ref 1361, .int c50, .ref 1000]) (by decide +kernel) rfl ?_
        refine b_callI 7 3 [.ref 1000, .int c50, .ref 1361] (rest := []) (by decide +kernel) rfl rfl rfl (go_S rfl (by decide +kernel)) rfl (s7 hv F c50 σ) (by decide) (fun c52 σ51 => ?_)
        refine b_run [(415, .istore 5, 0, 0, .null), (417, .aload_n 2, 0, 0, .null), (418, .aload_n 0, 0, 0, .null), (419, .iload 4, 0, 0, .null), (421, .iconst 1, 0, 0, .null), (422, .iadd, 0, 0, .null)] (pc' := 423) (ls' := [some (.ref 0), some (.ref 1000), some (.ref 1315), some (.ref 1361), some (.int y4), some (.int c52), none]) (st' := [.int (y4 + 1), .ref 0, .ref 1315]) (by decide +kernel) rfl ?_
        refine b_guard (fun hb => ?_)
        refine b_scI hL (ci := 0) (y := 0) (w := .null) (by decide +kernel) hb (fun c53 => ?_)
        refine b_callI 206 2 [.ref 1315, .int c53] (rest := []) (by decide +kernel) rfl rfl rfl (go_O rfl (by decide +kernel) (by decide +kernel : isO 1315 9 = true)) rfl (s206 hv F c53 σ51) (by decide) (fun c55 σ54 => ?_)
        refine b_run [(427, .istore 6, 0, 0, .null), (429, .aload_n 2, 0, 0, .null)] (pc' := 430) (ls' := [some (.ref 0), some (.ref 1000), some (.ref 1315), some (.ref 1361), some (.int y4), some (.int c52), some (.int c55)]) (st' := [.ref 1315]) (by decide +kernel) rfl ?_
        refine b_callI 144 1 [.ref 1315] (rest := []) (by decide +kernel) rfl rfl rfl (go_O rfl (by decide +kernel) (by decide +kernel : isO 1315 9 = true)) rfl (s144 hv F σ54) (by decide) (fun c57 σ56 => ?_)
        refine b_run [(433, .iload 5, 0, 0, .null)] (pc' := 435) (ls' := [some (.ref 0), some (.ref 1000), some (.ref 1315), some (.ref 1361), some (.int y4), some (.int c52), some (.int c55)]) (st' := [.int c52, .int c57]) (by decide +kernel) rfl ?_
        refine b_icT (c := .eq) (o := 5) (t := 440) (y := 0) (w := .null) (by decide +kernel) cmp_eq (fun _ => ?_) (fun _ => ?_)
        · refine b_run [(440, .iload 5, 0, 0, .null)] (pc' := 442) (ls' := [some (.ref 0), some (.ref 1000), some (.ref 1315), some (.ref 1361), some (.int y4), some (.int c52), some (.int c55)]) (st' := [.int c52]) (by decide +kernel) rfl ?_
          refine b_izF (c := .ne) (o := 15) (t := 457) (y := 0) (w := .null) (by decide +kernel) cmp_ne (fun _ => ?_) (fun _ => ?_)
          · refine b_run [(445, .aload_n 3, 0, 0, .null), (446, .iconst 0, 0, 0, .null)] (pc' := 447) (ls' := [some (.ref 0), some (.ref 1000), some (.ref 1315), some (.ref 1361), some (.int y4), some (.int c52), some (.int c55)]) (st' := [.int 0, .ref 1361]) (by decide +kernel) rfl ?_
            refine b_guard (fun hb => ?_)
            refine b_aL (ci := 0) (y := 0) (w := .null) (by decide +kernel) (by decide +kernel) hb (fun c58 => ?_)
            refine b_run [(448, .iload 6, 0, 0, .null), (450, .i2l, 0, 0, .null), (451, .lcmp, 0, 0, .null)] (pc' := 452) (ls' := [some (.ref 0), some (.ref 1000), some (.ref 1315), some (.ref 1361), some (.int y4), some (.int c52), some (.int c55)]) (st' := [.int (lg_cmp c58 ((c55 : Int32).toInt64))]) (by decide +kernel) rfl ?_
            refine b_izT (c := .eq) (o := 5) (t := 457) (y := 0) (w := .null) (by decide +kernel) cmp_eq (fun _ => ?_) (fun _ => ?_)
            · exact b_wk (wS (wS (wS (wS (wS (wN (wN w0))))))) (s2_457 F sc hv hL (f2_23 F sc n) ih y4 σ56)
            · refine b_run [(455, .iconst 0, 0, 0, .null)] (pc' := 456) (ls' := [some (.ref 0), some (.ref 1000), some (.ref 1315), some (.ref 1361), some (.int y4), some (.int c52), some (.int c55)]) (st' := [.int 0]) (by decide +kernel) rfl ?_
              exact b_ret (i := (.ireturn, 0, 0, .null)) (by decide +kernel) rfl rfl (by decide +kernel)
          · exact b_wk (wS (wS (wS (wS (wS (wN (wN w0))))))) (s2_457 F sc hv hL (f2_23 F sc n) ih y4 σ56)
        · refine b_run [(438, .iconst 0, 0, 0, .null)] (pc' := 439) (ls' := [some (.ref 0), some (.ref 1000), some (.ref 1315), some (.ref 1361), some (.int y4), some (.int c52), some (.int c55)]) (st' := [.int 0]) (by decide +kernel) rfl ?_
          exact b_ret (i := (.ireturn, 0, 0, .null)) (by decide +kernel) rfl rfl (by decide +kernel)
      refine b_ite (fun e7 => ?_) (fun e7 => ?_)
      · refine b_sw (dl := 664) (lo := 0) (hi' := 14) (offs := #[73, 130, 141, 185, 253, 309, 365, 421, 477, 490, 515, 540, 565, 602, 639]) (t := 73) (y := 0) (w := .null) (by decide +kernel) (swE e7 (by decide +kernel : aSw 39 664 0 14 #[73, 130, 141, 185, 253, 309, 365, 421, 477, 490, 515, 540, 565, 602, 639] 7 = some 460)) ?_
        refine b_run [(460, .aload_n 1, 0, 0, .null), (461, .aload_n 0, 0, 0, .null), (462, .iload 4, 0, 0, .null), (464, .iconst 1, 0, 0, .null), (465, .iadd, 0, 0, .null)] (pc' := 466) (ls' := [some (.ref 0), some (.ref 1000), some (.ref 1315), some (.ref 1361), some (.int y4), none, none]) (st' := [.int (y4 + 1), .ref 0, .ref 1000]) (by decide +kernel) rfl ?_
        refine b_guard (fun hb => ?_)
        refine b_scI hL (ci := 0) (y := 0) (w := .null) (by decide +kernel) hb (fun c59 => ?_)
        refine b_run [(467, .aload_n 3, 0, 0, .null)] (pc' := 468) (ls' := [some (.ref 0), some (.ref 1000), some (.ref 1315), some (.ref 1361), some (.int y4), none, none]) (st' := [.ref 1361, .int c59, .ref 1000]) (by decide +kernel) rfl ?_
        refine b_callI 8 3 [.ref 1000, .int c59, .ref 1361] (rest := []) (by decide +kernel) rfl rfl rfl (go_S rfl (by decide +kernel)) rfl (s8 hv F c59 σ) (by decide) (fun c61 σ60 => ?_)
        refine b_run [(471, .istore 5, 0, 0, .null), (473, .aload_n 2, 0, 0, .null), (474, .aload_n 0, 0, 0, .null), (475, .iload 4, 0, 0, .null), (477, .iconst 1, 0, 0, .null), (478, .iadd, 0, 0, .null)] (pc' := 479) (ls' := [some (.ref 0), some (.ref 1000), some (.ref 1315), some (.ref 1361), some (.int y4), some (.int c61), none]) (st' := [.int (y4 + 1), .ref 0, .ref 1315]) (by decide +kernel) rfl ?_
        refine b_guard (fun hb => ?_)
        refine b_scI hL (ci := 0) (y := 0) (w := .null) (by decide +kernel) hb (fun c62 => ?_)
        refine b_callI 247 2 [.ref 1315, .int c62] (rest := []) (by decide +kernel) rfl rfl rfl (go_O rfl (by decide +kernel) (by decide +kernel : isO 1315 9 = true)) rfl (s247 hv F c62 σ60) (by decide) (fun c64 σ63 => ?_)
        refine b_run [(483, .istore 6, 0, 0, .null), (485, .aload_n 2, 0, 0, .null)] (pc' := 486) (ls' := [some (.ref 0), some (.ref 1000), some (.ref 1315), some (.ref 1361), some (.int y4), some (.int c61), some (.int c64)]) (st' := [.ref 1315]) (by decide +kernel) rfl ?_
        refine b_callI 144 1 [.ref 1315] (rest := []) (by decide +kernel) rfl rfl rfl (go_O rfl (by decide +kernel) (by decide +kernel : isO 1315 9 = true)) rfl (s144 hv F σ63) (by decide) (fun c66 σ65 => ?_)
        refine b_run [(489, .iload 5, 0, 0, .null)] (pc' := 491) (ls' := [some (.ref 0), some (.ref 1000), some (.ref 1315), some (.ref 1361), some (.int y4), some (.int c61), some (.int c64)]) (st' := [.int c61, .int c66]) (by decide +kernel) rfl ?_
        refine b_icT (c := .eq) (o := 5) (t := 496) (y := 0) (w := .null) (by decide +kernel) cmp_eq (fun _ => ?_) (fun _ => ?_)
        · refine b_run [(496, .iload 5, 0, 0, .null)] (pc' := 498) (ls' := [some (.ref 0), some (.ref 1000), some (.ref 1315), some (.ref 1361), some (.int y4), some (.int c61), some (.int c64)]) (st' := [.int c61]) (by decide +kernel) rfl ?_
          refine b_izF (c := .ne) (o := 15) (t := 513) (y := 0) (w := .null) (by decide +kernel) cmp_ne (fun _ => ?_) (fun _ => ?_)
          · refine b_run [(501, .aload_n 3, 0, 0, .null), (502, .iconst 0, 0, 0, .null)] (pc' := 503) (ls' := [some (.ref 0), some (.ref 1000), some (.ref 1315), some (.ref 1361), some (.int y4), some (.int c61), some (.int c64)]) (st' := [.int 0, .ref 1361]) (by decide +kernel) rfl ?_
            refine b_guard (fun hb => ?_)
            refine b_aL (ci := 0) (y := 0) (w := .null) (by decide +kernel) (by decide +kernel) hb (fun c67 => ?_)
            refine b_run [(504, .iload 6, 0, 0, .null), (506, .i2l, 0, 0, .null), (507, .lcmp, 0, 0, .null)] (pc' := 508) (ls' := [some (.ref 0), some (.ref 1000), some (.ref 1315), some (.ref 1361), some (.int y4), some (.int c61), some (.int c64)]) (st' := [.int (lg_cmp c67 ((c64 : Int32).toInt64))]) (by decide +kernel) rfl ?_
            refine b_izT (c := .eq) (o := 5) (t := 513) (y := 0) (w := .null) (by decide +kernel) cmp_eq (fun _ => ?_) (fun _ => ?_)
            · exact b_wk (wS (wS (wS (wS (wS (wN (wN w0))))))) (s2_513 F sc hv hL (f2_23 F sc n) ih y4 σ65)
            · refine b_run [(511, .iconst 0, 0, 0, .null)] (pc' := 512) (ls' := [some (.ref 0), some (.ref 1000), some (.ref 1315), some (.ref 1361), some (.int y4), some (.int c61), some (.int c64)]) (st' := [.int 0]) (by decide +kernel) rfl ?_
              exact b_ret (i := (.ireturn, 0, 0, .null)) (by decide +kernel) rfl rfl (by decide +kernel)
          · exact b_wk (wS (wS (wS (wS (wS (wN (wN w0))))))) (s2_513 F sc hv hL (f2_23 F sc n) ih y4 σ65)
        · refine b_run [(494, .iconst 0, 0, 0, .null)] (pc' := 495) (ls' := [some (.ref 0), some (.ref 1000), some (.ref 1315), some (.ref 1361), some (.int y4), some (.int c61), some (.int c64)]) (st' := [.int 0]) (by decide +kernel) rfl ?_
          exact b_ret (i := (.ireturn, 0, 0, .null)) (by decide +kernel) rfl rfl (by decide +kernel)
      refine b_ite (fun e8 => ?_) (fun e8 => ?_)
      · refine b_sw (dl := 664) (lo := 0) (hi' := 14) (offs := #[73, 130, 141, 185, 253, 309, 365, 421, 477, 490, 515, 540, 565, 602, 639]) (t := 73) (y := 0) (w := .null) (by decide +kernel) (swE e8 (by decide +kernel : aSw 39 664 0 14 #[73, 130, 141, 185, 253, 309, 365, 421, 477, 490, 515, 540, 565, 602, 639] 8 = some 516)) ?_
        refine b_run [(516, .aload_n 1, 0, 0, .null)] (pc' := 517) (ls' := [some (.ref 0), some (.ref 1000), some (.ref 1315), some (.ref 1361), some (.int y4), none, none]) (st' := [.ref 1000]) (by decide +kernel) rfl ?_
        refine b_callI 14 1 [.ref 1000] (rest := []) (by decide +kernel) rfl rfl rfl (go_O rfl (by decide +kernel) (by decide +kernel : isO 1000 0 = true)) rfl (s14 hv F σ) (by decide) (fun c69 σ68 => ?_)
        refine b_run [(520, .aload_n 2, 0, 0, .null)] (pc' := 521) (ls' := [some (.ref 0), some (.ref 1000), some (.ref 1315), some (.ref 1361), some (.int y4), none, none]) (st' := [.ref 1315, .int c69]) (by decide +kernel) rfl ?_
        refine b_callI 190 1 [.ref 1315] (rest := [.int c69]) (by decide +kernel) rfl rfl rfl (go_O rfl (by decide +kernel) (by decide +kernel : isO 1315 9 = true)) rfl (s190 hv F σ68) (by decide) (fun c71 σ70 => ?_)
        refine b_icT (c := .eq) (o := 179) (t := 703) (y := 0) (w := .null) (by decide +kernel) cmp_eq (fun _ => ?_) (fun _ => ?_)
        · exact b_wk (wS (wS (wS (wS (wS (wN (wN w0))))))) (s2_703 F sc hv hL (f2_23 F sc n) ih y4 σ70)
        · refine b_run [(527, .iconst 0, 0, 0, .null)] (pc' := 528) (ls' := [some (.ref 0), some (.ref 1000), some (.ref 1315), some (.ref 1361), some (.int y4), none, none]) (st' := [.int 0]) (by decide +kernel) rfl ?_
          exact b_ret (i := (.ireturn, 0, 0, .null)) (by decide +kernel) rfl rfl (by decide +kernel)
      refine b_ite (fun e9 => ?_) (fun e9 => ?_)
      · refine b_sw (dl := 664) (lo := 0) (hi' := 14) (offs := #[73, 130, 141, 185, 253, 309, 365, 421, 477, 490, 515, 540, 565, 602, 639]) (t := 73) (y := 0) (w := .null) (by decide +kernel) (swE e9 (by decide +kernel : aSw 39 664 0 14 #[73, 130, 141, 185, 253, 309, 365, 421, 477, 490, 515, 540, 565, 602, 639] 9 = some 529)) ?_
        refine b_run [(529, .aload_n 1, 0, 0, .null), (530, .aload_n 0, 0, 0, .null), (531, .iload 4, 0, 0, .null), (533, .iconst 1, 0, 0, .null), (534, .iadd, 0, 0, .null)] (pc' := 535) (ls' := [some (.ref 0), some (.ref 1000), some (.ref 1315), some (.ref 1361), some (.int y4), none, none]) (st' := [.int (y4 + 1), .ref 0, .ref 1000]) (by decide +kernel) rfl ?_
        refine b_guard (fun hb => ?_)
        refine b_scI hL (ci := 0) (y := 0) (w := .null) (by decide +kernel) hb (fun c72 => ?_)
        refine b_callI 15 2 [.ref 1000, .int c72] (rest := []) (by decide +kernel) rfl rfl rfl (go_O rfl (by decide +kernel) (by decide +kernel : isO 1000 0 = true)) rfl (s15 hv F c72 σ) (by decide) (fun c74 σ73 => ?_)
        refine b_run [(539, .aload_n 2, 0, 0, .null), (540, .aload_n 0, 0, 0, .null), (541, .iload 4, 0, 0, .null), (543, .iconst 1, 0, 0, .null), (544, .iadd, 0, 0, .null)] (pc' := 545) (ls' := [some (.ref 0), some (.ref 1000), some (.ref 1315), some (.ref 1361), some (.int y4), none, none]) (st' := [.int (y4 + 1), .ref 0, .ref 1315, .int c74]) (by decide +kernel) rfl ?_
        refine b_guard (fun hb => ?_)
        refine b_scI hL (ci := 0) (y := 0) (w := .null) (by decide +kernel) hb (fun c75 => ?_)
        refine b_callI 191 2 [.ref 1315, .int c75] (rest := [.int c74]) (by decide +kernel) rfl rfl rfl (go_O rfl (by decide +kernel) (by decide +kernel : isO 1315 9 = true)) rfl (s191 hv F c75 σ73) (by decide) (fun c77 σ76 => ?_)
        refine b_icT (c := .eq) (o := 154) (t := 703) (y := 0) (w := .null) (by decide +kernel) cmp_eq (fun _ => ?_) (fun _ => ?_)
        · exact b_wk (wS (wS (wS (wS (wS (wN (wN w0))))))) (s2_703 F sc hv hL (f2_23 F sc n) ih y4 σ76)
        · refine b_run [(552, .iconst 0, 0, 0, .null)] (pc' := 553) (ls' := [some (.ref 0), some (.ref 1000), some (.ref 1315), some (.ref 1361), some (.int y4), none, none]) (st' := [.int 0]) (by decide +kernel) rfl ?_
          exact b_ret (i := (.ireturn, 0, 0, .null)) (by decide +kernel) rfl rfl (by decide +kernel)
      refine b_ite (fun e10 => ?_) (fun e10 => ?_)
      · refine b_sw (dl := 664) (lo := 0) (hi' := 14) (offs := #[73, 130, 141, 185, 253, 309, 365, 421, 477, 490, 515, 540, 565, 602, 639]) (t := 73) (y := 0) (w := .null) (by decide +kernel) (swE e10 (by decide +kernel : aSw 39 664 0 14 #[73, 130, 141, 185, 253, 309, 365, 421, 477, 490, 515, 540, 565, 602, 639] 10 = some 554)) ?_
        refine b_run [(554, .aload_n 1, 0, 0, .null), (555, .aload_n 0, 0, 0, .null), (556, .iload 4, 0, 0, .null), (558, .iconst 1, 0, 0, .null), (559, .iadd, 0, 0, .null)] (pc' := 560) (ls' := [some (.ref 0), some (.ref 1000), some (.ref 1315), some (.ref 1361), some (.int y4), none, none]) (st' := [.int (y4 + 1), .ref 0, .ref 1000]) (by decide +kernel) rfl ?_
        refine b_guard (fun hb => ?_)
        refine b_scI hL (ci := 0) (y := 0) (w := .null) (by decide +kernel) hb (fun c78 => ?_)
        refine b_callI 16 2 [.ref 1000, .int c78] (rest := []) (by decide +kernel) rfl rfl rfl (go_O rfl (by decide +kernel) (by decide +kernel : isO 1000 0 = true)) rfl (s16 hv F c78 σ) (by decide) (fun c80 σ79 => ?_)
        refine b_run [(564, .aload_n 2, 0, 0, .null), (565, .aload_n 0, 0, 0, .null), (566, .iload 4, 0, 0, .null), (568, .iconst 1, 0, 0, .null), (569, .iadd, 0, 0, .null)] (pc' := 570) (ls' := [some (.ref 0), some (.ref 1000), some (.ref 1315), some (.ref 1361), some (.int y4), none, none]) (st' := [.int (y4 + 1), .ref 0, .ref 1315, .int c80]) (by decide +kernel) rfl ?_
        refine b_guard (fun hb => ?_)
        refine b_scI hL (ci := 0) (y := 0) (w := .null) (by decide +kernel) hb (fun c81 => ?_)
        refine b_callI 192 2 [.ref 1315, .int c81] (rest := [.int c80]) (by decide +kernel) rfl rfl rfl (go_O rfl (by decide +kernel) (by decide +kernel : isO 1315 9 = true)) rfl (s192 hv F c81 σ79) (by decide) (fun c83 σ82 => ?_)
        refine b_icT (c := .eq) (o := 129) (t := 703) (y := 0) (w := .null) (by decide +kernel) cmp_eq (fun _ => ?_) (fun _ => ?_)
        · exact b_wk (wS (wS (wS (wS (wS (wN (wN w0))))))) (s2_703 F sc hv hL (f2_23 F sc n) ih y4 σ82)
        · refine b_run [(577, .iconst 0, 0, 0, .null)] (pc' := 578) (ls' := [some (.ref 0), some (.ref 1000), some (.ref 1315), some (.ref 1361), some (.int y4), none, none]) (st' := [.int 0]) (by decide +kernel) rfl ?_
          exact b_ret (i := (.ireturn, 0, 0, .null)) (by decide +kernel) rfl rfl (by decide +kernel)
      refine b_ite (fun e11 => ?_) (fun e11 => ?_)
      · refine b_sw (dl := 664) (lo := 0) (hi' := 14) (offs := #[73, 130, 141, 185, 253, 309, 365, 421, 477, 490, 515, 540, 565, 602, 639]) (t := 73) (y := 0) (w := .null) (by decide +kernel) (swE e11 (by decide +kernel : aSw 39 664 0 14 #[73, 130, 141, 185, 253, 309, 365, 421, 477, 490, 515, 540, 565, 602, 639] 11 = some 579)) ?_
        refine b_run [(579, .aload_n 1, 0, 0, .null), (580, .aload_n 0, 0, 0, .null), (581, .iload 4, 0, 0, .null), (583, .iconst 1, 0, 0, .null), (584, .iadd, 0, 0, .null)] (pc' := 585) (ls' := [some (.ref 0), some (.ref 1000), some (.ref 1315), some (.ref 1361), some (.int y4), none, none]) (st' := [.int (y4 + 1), .ref 0, .ref 1000]) (by decide +kernel) rfl ?_
        refine b_guard (fun hb => ?_)
        refine b_scI hL (ci := 0) (y := 0) (w := .null) (by decide +kernel) hb (fun c84 => ?_)
        refine b_callI 17 2 [.ref 1000, .int c84] (rest := []) (by decide +kernel) rfl rfl rfl (go_O rfl (by decide +kernel) (by decide +kernel : isO 1000 0 = true)) rfl (s17 hv F c84 σ) (by decide) (fun c86 σ85 => ?_)
        refine b_run [(589, .aload_n 2, 0, 0, .null), (590, .aload_n 0, 0, 0, .null), (591, .iload 4, 0, 0, .null), (593, .iconst 1, 0, 0, .null), (594, .iadd, 0, 0, .null)] (pc' := 595) (ls' := [some (.ref 0), some (.ref 1000), some (.ref 1315), some (.ref 1361), some (.int y4), none, none]) (st' := [.int (y4 + 1), .ref 0, .ref 1315, .int c86]) (by decide +kernel) rfl ?_
        refine b_guard (fun hb => ?_)
        refine b_scI hL (ci := 0) (y := 0) (w := .null) (by decide +kernel) hb (fun c87 => ?_)
        refine b_callI 193 2 [.ref 1315, .int c87] (rest := [.int c86]) (by decide +kernel) rfl rfl rfl (go_O rfl (by decide +kernel) (by decide +kernel : isO 1315 9 = true)) rfl (s193 hv F c87 σ85) (by decide) (fun c89 σ88 => ?_)
        refine b_icT (c := .eq) (o := 104) (t := 703) (y := 0) (w := .null) (by decide +kernel) cmp_eq (fun _ => ?_) (fun _ => ?_)
        · exact b_wk (wS (wS (wS (wS (wS (wN (wN w0))))))) (s2_703 F sc hv hL (f2_23 F sc n) ih y4 σ88)
        · refine b_run [(602, .iconst 0, 0, 0, .null)] (pc' := 603) (ls' := [some (.ref 0), some (.ref 1000), some (.ref 1315), some (.ref 1361), some (.int y4), none, none]) (st' := [.int 0]) (by decide +kernel) rfl ?_
          exact b_ret (i := (.ireturn, 0, 0, .null)) (by decide +kernel) rfl rfl (by decide +kernel)
      refine b_ite (fun e12 => ?_) (fun e12 => ?_)
      · refine b_sw (dl := 664) (lo := 0) (hi' := 14) (offs := #[73, 130, 141, 185, 253, 309, 365, 421, 477, 490, 515, 540, 565, 602, 639]) (t := 73) (y := 0) (w := .null) (by decide +kernel) (swE e12 (by decide +kernel : aSw 39 664 0 14 #[73, 130, 141, 185, 253, 309, 365, 421, 477, 490, 515, 540, 565, 602, 639] 12 = some 604)) ?_
        refine b_run [(604, .aload_n 1, 0, 0, .null), (605, .aload_n 0, 0, 0, .null), (606, .iload 4, 0, 0, .null), (608, .iconst 1, 0, 0, .null), (609, .iadd, 0, 0, .null)] (pc' := 610) (ls' := [some (.ref 0), some (.ref 1000), some (.ref 1315), some (.ref 1361), some (.int y4), none, none]) (st' := [.int (y4 + 1), .ref 0, .ref 1000]) (by decide +kernel) rfl ?_
        refine b_guard (fun hb => ?_)
        refine b_scI hL (ci := 0) (y := 0) (w := .null) (by decide +kernel) hb (fun c90 => ?_)
        refine b_run [(611, .aload_n 0, 0, 0, .null), (612, .iload 4, 0, 0, .null), (614, .iconst 2, 0, 0, .null), (615, .iadd, 0, 0, .null)] (pc' := 616) (ls' := [some (.ref 0), some (.ref 1000), some (.ref 1315), some (.ref 1361), some (.int y4), none, none]) (st' := [.int (y4 + 2), .ref 0, .int c90, .ref 1000]) (by decide +kernel) rfl ?_
        refine b_guard (fun hb => ?_)
        refine b_scI hL (ci := 0) (y := 0) (w := .null) (by decide +kernel) hb (fun c91 => ?_)
        refine b_callI 18 3 [.ref 1000, .int c90, .int c91] (rest := []) (by decide +kernel) rfl rfl rfl (go_O rfl (by decide +kernel) (by decide +kernel : isO 1000 0 = true)) rfl (s18 hv F c90 c91 σ) (by decide) (fun c93 σ92 => ?_)
        refine b_run [(620, .aload_n 2, 0, 0, .null), (621, .aload_n 0, 0, 0, .null), (622, .iload 4, 0, 0, .null), (624, .iconst 1, 0, 0, .null), (625, .iadd, 0, 0, .null)] (pc' := 626) (ls' := [some (.ref 0), some (.ref 1000), some (.ref 1315), some (.ref 1361), some (.int y4), none, none]) (st' := [.int (y4 + 1), .ref 0, .ref 1315, .int c93]) (by decide +kernel) rfl ?_
        refine b_guard (fun hb => ?_)
        refine b_scI hL (ci := 0) (y := 0) (w := .null) (by decide +kernel) hb (fun c94 => ?_)
        refine b_run [(627, .aload_n 0, 0, 0, .null), (628, .iload 4, 0, 0, .null), (630, .iconst 2, 0, 0, .null), (631, .iadd, 0, 0, .null)] (pc' := 632) (ls' := [some (.ref 0), some (.ref 1000), some (.ref 1315), some (.ref 1361), some (.int y4), none, none]) (st' := [.int (y4 + 2), .ref 0, .int c94, .ref 1315, .int c93]) (by decide +kernel) rfl ?_
        refine b_guard (fun hb => ?_)
        refine b_scI hL (ci := 0) (y := 0) (w := .null) (by decide +kernel) hb (fun c95 => ?_)
        refine b_callI 194 3 [.ref 1315, .int c94, .int c95] (rest := [.int c93]) (by decide +kernel) rfl rfl rfl (go_O rfl (by decide +kernel) (by decide +kernel : isO 1315 9 = true)) rfl (s194 hv F c94 c95 σ92) (by decide) (fun c97 σ96 => ?_)
        refine b_icT (c := .eq) (o := 67) (t := 703) (y := 0) (w := .null) (by decide +kernel) cmp_eq (fun _ => ?_) (fun _ => ?_)
        · exact b_wk (wS (wS (wS (wS (wS (wN (wN w0))))))) (s2_703 F sc hv hL (f2_23 F sc n) ih y4 σ96)
        · refine b_run [(639, .iconst 0, 0, 0, .null)] (pc' := 640) (ls' := [some (.ref 0), some (.ref 1000), some (.ref 1315), some (.ref 1361), some (.int y4), none, none]) (st' := [.int 0]) (by decide +kernel) rfl ?_
          exact b_ret (i := (.ireturn, 0, 0, .null)) (by decide +kernel) rfl rfl (by decide +kernel)
      refine b_ite (fun e13 => ?_) (fun e13 => ?_)
      · refine b_sw (dl := 664) (lo := 0) (hi' := 14) (offs := #[73, 130, 141, 185, 253, 309, 365, 421, 477, 490, 515, 540, 565, 602, 639]) (t := 73) (y := 0) (w := .null) (by decide +kernel) (swE e13 (by decide +kernel : aSw 39 664 0 14 #[73, 130, 141, 185, 253, 309, 365, 421, 477, 490, 515, 540, 565, 602, 639] 13 = some 641)) ?_
        refine b_run [(641, .aload_n 1, 0, 0, .null), (642, .aload_n 0, 0, 0, .null), (643, .iload 4, 0, 0, .null), (645, .iconst 1, 0, 0, .null), (646, .iadd, 0, 0, .null)] (pc' := 647) (ls' := [some (.ref 0), some (.ref 1000), some (.ref 1315), some (.ref 1361), some (.int y4), none, none]) (st' := [.int (y4 + 1), .ref 0, .ref 1000]) (by decide +kernel) rfl ?_
        refine b_guard (fun hb => ?_)
        refine b_scI hL (ci := 0) (y := 0) (w := .null) (by decide +kernel) hb (fun c98 => ?_)
        refine b_run [(648, .aload_n 0, 0, 0, .null), (649, .iload 4, 0, 0, .null), (651, .iconst 2, 0, 0, .null), (652, .iadd, 0, 0, .null)] (pc' := 653) (ls' := [some (.ref 0), some (.ref 1000), some (.ref 1315), some (.ref 1361), some (.int y4), none, none]) (st' := [.int (y4 + 2), .ref 0, .int c98, .ref 1000]) (by decide +kernel) rfl ?_
        refine b_guard (fun hb => ?_)
        refine b_scI hL (ci := 0) (y := 0) (w := .null) (by decide +kernel) hb (fun c99 => ?_)
        refine b_callI 19 3 [.ref 1000, .int c98, .int c99] (rest := []) (by decide +kernel) rfl rfl rfl (go_O rfl (by decide +kernel) (by decide +kernel : isO 1000 0 = true)) rfl (s19 hv F c98 c99 σ) (by decide) (fun c101 σ100 => ?_)
        refine b_run [(657, .aload_n 2, 0, 0, .null), (658, .aload_n 0, 0, 0, .null), (659, .iload 4, 0, 0, .null), (661, .iconst 1, 0, 0, .null), (662, .iadd, 0, 0, .null)] (pc' := 663) (ls' := [some (.ref 0), some (.ref 1000), some (.ref 1315), some (.ref 1361), some (.int y4), none, none]) (st' := [.int (y4 + 1), .ref 0, .ref 1315, .int c101]) (by decide +kernel) rfl ?_
        refine b_guard (fun hb => ?_)
        refine b_scI hL (ci := 0) (y := 0) (w := .null) (by decide +kernel) hb (fun c102 => ?_)
        refine b_run [(664, .aload_n 0, 0, 0, .null), (665, .iload 4, 0, 0, .null), (667, .iconst 2, 0, 0, .null), (668, .iadd, 0, 0, .null)] (pc' := 669) (ls' := [some (.ref 0), some (.ref 1000), some (.ref 1315), some (.ref 1361), some (.int y4), none, none]) (st' := [.int (y4 + 2), .ref 0, .int c102, .ref 1315, .int c101]) (by decide +kernel) rfl ?_
        refine b_guard (fun hb => ?_)
        refine b_scI hL (ci := 0) (y := 0) (w := .null) (by decide +kernel) hb (fun c103 => ?_)
        refine b_callI 195 3 [.ref 1315, .int c102, .int c103] (rest := [.int c101]) (by decide +kernel) rfl rfl rfl (go_O rfl (by decide +kernel) (by decide +kernel : isO 1315 9 = true)) rfl (s195 hv F c102 c103 σ100) (by decide) (fun c105 σ104 => ?_)
        refine b_icT (c := .eq) (o := 30) (t := 703) (y := 0) (w := .null) (by decide +kernel) cmp_eq (fun _ => ?_) (fun _ => ?_)
        · exact b_wk (wS (wS (wS (wS (wS (wN (wN w0))))))) (s2_703 F sc hv hL (f2_23 F sc n) ih y4 σ104)
        · refine b_run [(676, .iconst 0, 0, 0, .null)] (pc' := 677) (ls' := [some (.ref 0), some (.ref 1000), some (.ref 1315), some (.ref 1361), some (.int y4), none, none]) (st' := [.int 0]) (by decide +kernel) rfl ?_
          exact b_ret (i := (.ireturn, 0, 0, .null)) (by decide +kernel) rfl rfl (by decide +kernel)
      refine b_ite (fun e14 => ?_) (fun e14 => ?_)
      · refine b_sw (dl := 664) (lo := 0) (hi' := 14) (offs := #[73, 130, 141, 185, 253, 309, 365, 421, 477, 490, 515, 540, 565, 602, 639]) (t := 73) (y := 0) (w := .null) (by decide +kernel) (swE e14 (by decide +kernel : aSw 39 664 0 14 #[73, 130, 141, 185, 253, 309, 365, 421, 477, 490, 515, 540, 565, 602, 639] 14 = some 678)) ?_
        refine b_run [(678, .aload_n 1, 0, 0, .null), (679, .aload_n 0, 0, 0, .null), (680, .iload 4, 0, 0, .null), (682, .iconst 1, 0, 0, .null), (683, .iadd, 0, 0, .null)] (pc' := 684) (ls' := [some (.ref 0), some (.ref 1000), some (.ref 1315), some (.ref 1361), some (.int y4), none, none]) (st' := [.int (y4 + 1), .ref 0, .ref 1000]) (by decide +kernel) rfl ?_
        refine b_guard (fun hb => ?_)
        refine b_scI hL (ci := 0) (y := 0) (w := .null) (by decide +kernel) hb (fun c106 => ?_)
        refine b_callI 20 2 [.ref 1000, .int c106] (rest := []) (by decide +kernel) rfl rfl rfl (go_O rfl (by decide +kernel) (by decide +kernel : isO 1000 0 = true)) rfl (s20 hv F c106 σ) (by decide) (fun c108 σ107 => ?_)
        refine b_run [(688, .aload_n 2, 0, 0, .null), (689, .aload_n 0, 0, 0, .null), (690, .iload 4, 0, 0, .null), (692, .iconst 1, 0, 0, .null), (693, .iadd, 0, 0, .null)] (pc' := 694) (ls' := [some (.ref 0), some (.ref 1000), some (.ref 1315), some (.ref 1361), some (.int y4), none, none]) (st' := [.int (y4 + 1), .ref 0, .ref 1315, .int c108]) (by decide +kernel) rfl ?_
        refine b_guard (fun hb => ?_)
        refine b_scI hL (ci := 0) (y := 0) (w := .null) (by decide +kernel) hb (fun c109 => ?_)
        refine b_callI 197 2 [.ref 1315, .int c109] (rest := [.int c108]) (by decide +kernel) rfl rfl rfl (go_O rfl (by decide +kernel) (by decide +kernel : isO 1315 9 = true)) rfl (s197 hv F c109 σ107) (by decide) (fun c111 σ110 => ?_)
        refine b_icT (c := .eq) (o := 5) (t := 703) (y := 0) (w := .null) (by decide +kernel) cmp_eq (fun _ => ?_) (fun _ => ?_)
        · exact b_wk (wS (wS (wS (wS (wS (wN (wN w0))))))) (s2_703 F sc hv hL (f2_23 F sc n) ih y4 σ110)
        · refine b_run [(701, .iconst 0, 0, 0, .null)] (pc' := 702) (ls' := [some (.ref 0), some (.ref 1000), some (.ref 1315), some (.ref 1361), some (.int y4), none, none]) (st' := [.int 0]) (by decide +kernel) rfl ?_
          exact b_ret (i := (.ireturn, 0, 0, .null)) (by decide +kernel) rfl rfl (by decide +kernel)
      refine b_sw (dl := 664) (lo := 0) (hi' := 14) (offs := #[73, 130, 141, 185, 253, 309, 365, 421, 477, 490, 515, 540, 565, 602, 639]) (t := 73) (y := 0) (w := .null) (by decide +kernel) (swD (pc' := 703) (by have q0 : (c1 &&& 15 : Int32).toInt ≠ 0 := swN e0; have q1 : (c1 &&& 15 : Int32).toInt ≠ 1 := swN e1; have q2 : (c1 &&& 15 : Int32).toInt ≠ 2 := swN e2; have q3 : (c1 &&& 15 : Int32).toInt ≠ 3 := swN e3; have q4 : (c1 &&& 15 : Int32).toInt ≠ 4 := swN e4; have q5 : (c1 &&& 15 : Int32).toInt ≠ 5 := swN e5; have q6 : (c1 &&& 15 : Int32).toInt ≠ 6 := swN e6; have q7 : (c1 &&& 15 : Int32).toInt ≠ 7 := swN e7; have q8 : (c1 &&& 15 : Int32).toInt ≠ 8 := swN e8; have q9 : (c1 &&& 15 : Int32).toInt ≠ 9 := swN e9; have q10 : (c1 &&& 15 : Int32).toInt ≠ 10 := swN e10; have q11 : (c1 &&& 15 : Int32).toInt ≠ 11 := swN e11; have q12 : (c1 &&& 15 : Int32).toInt ≠ 12 := swN e12; have q13 : (c1 &&& 15 : Int32).toInt ≠ 13 := swN e13; have q14 : (c1 &&& 15 : Int32).toInt ≠ 14 := swN e14; omega) rfl) ?_
      exact b_wk (wS (wS (wS (wS (wS (wN (wN w0))))))) (s2_703 F sc hv hL (f2_23 F sc n) ih y4 σ)
