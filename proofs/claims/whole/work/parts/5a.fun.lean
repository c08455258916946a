/-- TreeStore$Row.clear()V -/
def f91 (F : Nat) (x0 : Nat) (σ : St) : Rs := lt (uI σ x0 1 0) fun σ1 => oV σ1
theorem s91 {sc : aSc} (hv : vOk sc) (F : Nat) (x0 : Nat) (σ : St) (hx0 : isO x0 5 = true) : bEx sc 0 91 0 [some (.ref x0)] [] σ (f91 F x0 σ) := by
  unfold f91
  refine b_run [(0, .aload_n 0, 0, 0, .null), (1, .iconst 0, 0, 0, .null)] (pc' := 2) (ls' := [some (.ref x0)]) (st' := [.int 0, .ref x0]) (by decide +kernel) rfl ?_
  refine b_pI (q := 15) (ci := 5) (k := 1) (w := .null) (by decide +kernel) (fk_I5_1 hx0) (fit_I _) (fun σ1 => ?_)
  exact b_ret0 (i := (.return_, 0, 0, .null)) (by decide +kernel) rfl rfl
/-- TreeStore$Tree.clear()V -/
def f135 (F : Nat) (x0 : Nat) (σ : St) : Rs := cV (f91 F ((rfF x0 8)) σ) fun σ1 => cV (f91 F ((rfF x0 9)) σ1) fun σ3 => lt (uI σ3 x0 10 0) fun σ5 => oV σ5
theorem s135 {sc : aSc} (hv : vOk sc) (F : Nat) (x0 : Nat) (σ : St) (hx0 : isO x0 8 = true) : bEx sc 1 135 0 [some (.ref x0)] [] σ (f135 F x0 σ) := by
  unfold f135
  refine b_run [(0, .aload_n 0, 0, 0, .null)] (pc' := 1) (ls' := [some (.ref x0)]) (st' := [.ref x0]) (by decide +kernel) rfl ?_
  refine b_getC (q := 41) (ci := 8) (k := 8) (w := .null) (by decide +kernel) (fk_C8_8 hx0) ?_
  refine b_callV 91 1 [.ref ((rfF x0 8))] (rest := []) (by decide +kernel) rfl rfl rfl (go_O rfl (by decide +kernel) (fk_O8_8 hx0)) rfl (s91 hv F ((rfF x0 8)) σ (fk_O8_8 hx0)) (by decide) (fun σ1 => ?_)
  refine b_run [(7, .aload_n 0, 0, 0, .null)] (pc' := 8) (ls' := [some (.ref x0)]) (st' := [.ref x0]) (by decide +kernel) rfl ?_
  refine b_getC (q := 45) (ci := 8) (k := 9) (w := .null) (by decide +kernel) (fk_C8_9 hx0) ?_
  refine b_callV 91 1 [.ref ((rfF x0 9))] (rest := []) (by decide +kernel) rfl rfl rfl (go_O rfl (by decide +kernel) (fk_O8_9 hx0)) rfl (s91 hv F ((rfF x0 9)) σ1 (fk_O8_9 hx0)) (by decide) (fun σ3 => ?_)
  refine b_run [(14, .aload_n 0, 0, 0, .null), (15, .iconst 0, 0, 0, .null)] (pc' := 16) (ls' := [some (.ref x0)]) (st' := [.int 0, .ref x0]) (by decide +kernel) rfl ?_
  refine b_pI (q := 48) (ci := 8) (k := 10) (w := .null) (by decide +kernel) (fk_I8_10 hx0) (fit_I _) (fun σ5 => ?_)
  exact b_ret0 (i := (.return_, 0, 0, .null)) (by decide +kernel) rfl rfl
/-- TreeStore$TextReader.begin(I)V -/
def f106 (F : Nat) (x1 : Int32) (σ : St) : Rs := cV (f135 F 1016 σ) fun σ1 => lt (uI σ1 1029 2 0) fun σ3 => lt (uI σ3 1029 3 x1) fun σ4 => oV σ4
theorem s106 {sc : aSc} (hv : vOk sc) (F : Nat) (x1 : Int32) (σ : St) : bEx sc 2 106 0 [some (.ref 1029), some (.int x1)] [] σ (f106 F x1 σ) := by
  unfold f106
  refine b_run [(0, .aload_n 0, 0, 0, .null)] (pc' := 1) (ls' := [some (.ref 1029), some (.int x1)]) (st' := [.ref 1029]) (by decide +kernel) rfl ?_
  refine b_getC (b := 1016) (q := 15) (ci := 7) (k := 1) (w := .null) (by decide +kernel) (by decide +kernel) ?_
  refine b_callV 135 1 [.ref 1016] (rest := []) (by decide +kernel) rfl rfl rfl (go_O rfl (by decide +kernel) (by decide +kernel : isO 1016 8 = true)) rfl (s135 hv F 1016 σ (by decide +kernel : isO 1016 8 = true)) (by decide) (fun σ1 => ?_)
  refine b_run [(7, .aload_n 0, 0, 0, .null), (8, .iconst 0, 0, 0, .null)] (pc' := 9) (ls' := [some (.ref 1029), some (.int x1)]) (st' := [.int 0, .ref 1029]) (by decide +kernel) rfl ?_
  refine b_pI (q := 19) (ci := 7) (k := 2) (w := .null) (by decide +kernel) (by decide +kernel) (fit_I _) (fun σ3 => ?_)
  refine b_run [(12, .aload_n 0, 0, 0, .null), (13, .iload_n 1, 0, 0, .null)] (pc' := 14) (ls' := [some (.ref 1029), some (.int x1)]) (st' := [.int x1, .ref 1029]) (by decide +kernel) rfl ?_
  refine b_pI (q := 23) (ci := 7) (k := 3) (w := .null) (by decide +kernel) (by decide +kernel) (fit_I _) (fun σ4 => ?_)
  exact b_ret0 (i := (.return_, 0, 0, .null)) (by decide +kernel) rfl rfl
/-- TreeStore$Row.at(I)I -/
def f92 (F : Nat) (x0 : Nat) (x1 : Int32) (σ : St) : Rs := if x1 < 0 then oI 0 σ
    else lt (σ.1 x0 1) fun c1 => 
    if x1 < c1 then if inB x1 (laN ((rfF x0 0))) then lt (σ.1 (rfF x0 0) x1.toNatClampNeg) fun c2 => oI c2 σ else none
    else oI 0 σ
theorem s92 {sc : aSc} (hv : vOk sc) (F : Nat) (x0 : Nat) (x1 : Int32) (σ : St) (hx0 : isO x0 5 = true) : bEx sc 0 92 0 [some (.ref x0), some (.int x1)] [] σ (f92 F x0 x1 σ) := by
  unfold f92
  refine b_run [(0, .iload_n 1, 0, 0, .null)] (pc' := 1) (ls' := [some (.ref x0), some (.int x1)]) (st' := [.int x1]) (by decide +kernel) rfl ?_
  refine b_izT (c := .lt) (o := 20) (t := 21) (y := 0) (w := .null) (by decide +kernel) cmp_lt (fun _ => ?_) (fun _ => ?_)
  · refine b_run [(21, .iconst 0, 0, 0, .null)] (pc' := 22) (ls' := [some (.ref x0), some (.int x1)]) (st' := [.int 0]) (by decide +kernel) rfl ?_
    exact b_ret (i := (.ireturn, 0, 0, .null)) (by decide +kernel) rfl rfl (fit_I _)
  · refine b_run [(4, .iload_n 1, 0, 0, .null), (5, .aload_n 0, 0, 0, .null)] (pc' := 6) (ls' := [some (.ref x0), some (.int x1)]) (st' := [.ref x0, .int x1]) (by decide +kernel) rfl ?_
    refine b_gI (q := 15) (ci := 5) (k := 1) (w := .null) (by decide +kernel) (fk_I5_1 hx0) (fun c1 => ?_)
    refine b_icF (c := .ge) (o := 12) (t := 21) (y := 0) (w := .null) (by decide +kernel) cmp_ge (fun _ => ?_) (fun _ => ?_)
    · refine b_run [(12, .aload_n 0, 0, 0, .null)] (pc' := 13) (ls' := [some (.ref x0), some (.int x1)]) (st' := [.ref x0]) (by decide +kernel) rfl ?_
      refine b_getC (q := 9) (ci := 5) (k := 0) (w := .null) (by decide +kernel) (fk_C5_0 hx0) ?_
      refine b_run [(16, .iload_n 1, 0, 0, .null)] (pc' := 17) (ls' := [some (.ref x0), some (.int x1)]) (st' := [.int x1, .ref ((rfF x0 0))]) (by decide +kernel) rfl ?_
      refine b_guard (fun hb => ?_)
      refine b_aC (ci := 0) (y := 0) (w := .null) (by decide +kernel) (fk_A5_0 hx0) hb (fun c2 => ?_)
      refine b_run [(18, .goto 4, 22, 0, .null)] (pc' := 22) (ls' := [some (.ref x0), some (.int x1)]) (st' := [.int c2]) (by decide +kernel) rfl ?_
      exact b_ret (i := (.ireturn, 0, 0, .null)) (by decide +kernel) rfl rfl (fit_I _)
    · refine b_run [(21, .iconst 0, 0, 0, .null)] (pc' := 22) (ls' := [some (.ref x0), some (.int x1)]) (st' := [.int 0]) (by decide +kernel) rfl ?_
      exact b_ret (i := (.ireturn, 0, 0, .null)) (by decide +kernel) rfl rfl (fit_I _)
/-- TreeStore$TextReader.expect(I)V -/
def f110 (F : Nat) (x1 : Int32) (σ : St) : Rs := lt (σ.1 1029 2) fun c1 => 
    cI (f92 F 1001 c1 σ) fun c3 σ2 => 
    if c3 = x1 then lt (σ2.1 1029 2) fun c4 => lt (uI σ2 1029 2 (c4 + 1)) fun σ5 => oV σ5
    else oT 10 σ2
theorem s110 {sc : aSc} (hv : vOk sc) (F : Nat) (x1 : Int32) (σ : St) : bEx sc 1 110 0 [some (.ref 1029), some (.int x1)] [] σ (f110 F x1 σ) := by
  unfold f110
  refine b_run [(0, .aload_n 0, 0, 0, .null)] (pc' := 1) (ls' := [some (.ref 1029), some (.int x1)]) (st' := [.ref 1029]) (by decide +kernel) rfl ?_
  refine b_getC (b := 1001) (q := 9) (ci := 7) (k := 0) (w := .null) (by decide +kernel) (by decide +kernel) ?_
  refine b_run [(4, .aload_n 0, 0, 0, .null)] (pc' := 5) (ls' := [some (.ref 1029), some (.int x1)]) (st' := [.ref 1029, .ref 1001]) (by decide +kernel) rfl ?_
  refine b_gI (q := 19) (ci := 7) (k := 2) (w := .null) (by decide +kernel) (by decide +kernel) (fun c1 => ?_)
  refine b_callI 92 2 [.ref 1001, .int c1] (rest := []) (by decide +kernel) rfl rfl rfl (go_O rfl (by decide +kernel) (by decide +kernel : isO 1001 5 = true)) rfl (s92 hv F 1001 c1 σ (by decide +kernel : isO 1001 5 = true)) (by decide) (fun c3 σ2 => ?_)
  refine b_run [(11, .iload_n 1, 0, 0, .null)] (pc' := 12) (ls' := [some (.ref 1029), some (.int x1)]) (st' := [.int x1, .int c3]) (by decide +kernel) rfl ?_
  refine b_icT (c := .eq) (o := 13) (t := 25) (y := 0) (w := .null) (by decide +kernel) cmp_eq (fun _ => ?_) (fun _ => ?_)
  · refine b_run [(25, .aload_n 0, 0, 0, .null), (26, .dup, 0, 0, .null)] (pc' := 27) (ls' := [some (.ref 1029), some (.int x1)]) (st' := [.ref 1029, .ref 1029]) (by decide +kernel) rfl ?_
    refine b_gI (q := 19) (ci := 7) (k := 2) (w := .null) (by decide +kernel) (by decide +kernel) (fun c4 => ?_)
    refine b_run [(30, .iconst 1, 0, 0, .null), (31, .iadd, 0, 0, .null)] (pc' := 32) (ls' := [some (.ref 1029), some (.int x1)]) (st' := [.int (c4 + 1), .ref 1029]) (by decide +kernel) rfl ?_
    refine b_pI (q := 19) (ci := 7) (k := 2) (w := .null) (by decide +kernel) (by decide +kernel) (fit_I _) (fun σ5 => ?_)
    exact b_ret0 (i := (.return_, 0, 0, .null)) (by decide +kernel) rfl rfl
  · exact b_thr (i := (.new 127, 10, 1, .null)) (by decide +kernel) rfl rfl rfl
/-- TreeStore$TextReader.needRoom()V -/
def f111 (F : Nat) (σ : St) : Rs := lt (σ.1 1016 10) fun c1 => 
    lt (σ.1 1029 3) fun c2 => 
    if c1 < c2 then oV σ
    else oT 11 σ
theorem s111 {sc : aSc} (hv : vOk sc) (F : Nat) (σ : St) : bEx sc 0 111 0 [some (.ref 1029)] [] σ (f111 F σ) := by
  unfold f111
  refine b_run [(0, .aload_n 0, 0, 0, .null)] (pc' := 1) (ls' := [some (.ref 1029)]) (st' := [.ref 1029]) (by decide +kernel) rfl ?_
  refine b_getC (b := 1016) (q := 15) (ci := 7) (k := 1) (w := .null) (by decide +kernel) (by decide +kernel) ?_
  refine b_gI (q := 132) (ci := 8) (k := 10) (w := .null) (by decide +kernel) (by decide +kernel) (fun c1 => ?_)
  refine b_run [(7, .aload_n 0, 0, 0, .null)] (pc' := 8) (ls' := [some (.ref 1029)]) (st' := [.ref 1029, .int c1]) (by decide +kernel) rfl ?_
  refine b_gI (q := 23) (ci := 7) (k := 3) (w := .null) (by decide +kernel) (by decide +kernel) (fun c2 => ?_)
  refine b_icT (c := .lt) (o := 13) (t := 24) (y := 0) (w := .null) (by decide +kernel) cmp_lt (fun _ => ?_) (fun _ => ?_)
  · exact b_ret0 (i := (.return_, 0, 0, .null)) (by decide +kernel) rfl rfl
  · exact b_thr (i := (.new 99, 11, 1, .null)) (by decide +kernel) rfl rfl rfl
/-- TreeStore$Tree.add(IIII)V -/
def f124 (F : Nat) (x0 : Nat) (x1 : Int32) (x2 : Int32) (x3 : Int32) (x4 : Int32) (σ : St) : Rs := lt (σ.1 x0 10) fun c1 => 
    if c1 < 30 then 
    lt (σ.1 x0 10) fun c2 => 
    if inB c2 30 then lt (uI σ (rfF x0 0) c2.toNatClampNeg x1) fun σ3 => 
    lt (σ3.1 x0 10) fun c4 => 
    if inB c4 30 then lt (uI σ3 (rfF x0 1) c4.toNatClampNeg x2) fun σ5 => 
    lt (σ5.1 x0 10) fun c6 => 
    if inB c6 30 then lt (uI σ5 (rfF x0 2) c6.toNatClampNeg x3) fun σ7 => 
    lt (σ7.1 x0 10) fun c8 => 
    if inB c8 30 then lt (uI σ7 (rfF x0 3) c8.toNatClampNeg x4) fun σ9 => 
    lt (σ9.1 x0 10) fun c10 => 
    lt (uI σ9 x0 10 (c10 + 1)) fun σ11 => 
    lt (σ11.1 x0 10) fun c12 => 
    lt (σ11.1 ((rfF x0 8)) 1) fun c13 => 
    if inB c12 31 then lt (uI σ11 (rfF x0 6) c12.toNatClampNeg c13) fun σ14 => 
    lt (σ14.1 x0 10) fun c15 => 
    lt (σ14.1 ((rfF x0 9)) 1) fun c16 => if inB c15 31 then lt (uI σ14 (rfF x0 7) c15.toNatClampNeg c16) fun σ17 => oV σ17 else none else none else none else none else none else none
    else oV σ
theorem s124 {sc : aSc} (hv : vOk sc) (F : Nat) (x0 : Nat) (x1 : Int32) (x2 : Int32) (x3 : Int32) (x4 : Int32) (σ : St) (hx0 : isO x0 8 = true) : bEx sc 0 124 0 [some (.ref x0), some (.int x1), some (.int x2), some (.int x3), some (.int x4)] [] σ (f124 F x0 x1 x2 x3 x4 σ) := by
  unfold f124
  refine b_run [(0, .aload_n 0, 0, 0, .null)] (pc' := 1) (ls' := [some (.ref x0), some (.int x1), some (.int x2), some (.int x3), some (.int x4)]) (st' := [.ref x0]) (by decide +kernel) rfl ?_
  refine b_gI (q := 48) (ci := 8) (k := 10) (w := .null) (by decide +kernel) (fk_I8_10 hx0) (fun c1 => ?_)
  refine b_run [(4, .bipush 30, 0, 0, .null)] (pc' := 6) (ls' := [some (.ref x0), some (.int x1), some (.int x2), some (.int x3), some (.int x4)]) (st' := [.int 30, .int c1]) (by decide +kernel) rfl ?_
  refine b_icT (c := .lt) (o := 4) (t := 10) (y := 0) (w := .null) (by decide +kernel) cmp_lt (fun _ => ?_) (fun _ => ?_)
  · refine b_run [(10, .aload_n 0, 0, 0, .null)] (pc' := 11) (ls' := [some (.ref x0), some (.int x1), some (.int x2), some (.int x3), some (.int x4)]) (st' := [.ref x0]) (by decide +kernel) rfl ?_
    refine b_getC (q := 9) (ci := 8) (k := 0) (w := .null) (by decide +kernel) (fk_C8_0 hx0) ?_
    refine b_run [(14, .aload_n 0, 0, 0, .null)] (pc' := 15) (ls' := [some (.ref x0), some (.int x1), some (.int x2), some (.int x3), some (.int x4)]) (st' := [.ref x0, .ref ((rfF x0 0))]) (by decide +kernel) rfl ?_
    refine b_gI (q := 48) (ci := 8) (k := 10) (w := .null) (by decide +kernel) (fk_I8_10 hx0) (fun c2 => ?_)
    refine b_run [(18, .iload_n 1, 0, 0, .null)] (pc' := 19) (ls' := [some (.ref x0), some (.int x1), some (.int x2), some (.int x3), some (.int x4)]) (st' := [.int x1, .int c2, .ref ((rfF x0 0))]) (by decide +kernel) rfl ?_
    refine b_guard (fun hb => ?_)
    refine b_sI (ci := 0) (y := 0) (w := .null) (by decide +kernel) (fk_A8_0 hx0) hb (fun σ3 => ?_)
    refine b_run [(20, .aload_n 0, 0, 0, .null)] (pc' := 21) (ls' := [some (.ref x0), some (.int x1), some (.int x2), some (.int x3), some (.int x4)]) (st' := [.ref x0]) (by decide +kernel) rfl ?_
    refine b_getC (q := 15) (ci := 8) (k := 1) (w := .null) (by decide +kernel) (fk_C8_1 hx0) ?_
    refine b_run [(24, .aload_n 0, 0, 0, .null)] (pc' := 25) (ls' := [some (.ref x0), some (.int x1), some (.int x2), some (.int x3), some (.int x4)]) (st' := [.ref x0, .ref ((rfF x0 1))]) (by decide +kernel) rfl ?_
    refine b_gI (q := 48) (ci := 8) (k := 10) (w := .null) (by decide +kernel) (fk_I8_10 hx0) (fun c4 => ?_)
    refine b_run [(28, .iload_n 2, 0, 0, .null)] (pc' := 29) (ls' := [some (.ref x0), some (.int x1), some (.int x2), some (.int x3), some (.int x4)]) (st' := [.int x2, .int c4, .ref ((rfF x0 1))]) (by decide +kernel) rfl ?_
    refine b_guard (fun hb => ?_)
    refine b_sI (ci := 0) (y := 0) (w := .null) (by decide +kernel) (fk_A8_1 hx0) hb (fun σ5 => ?_)
    refine b_run [(30, .aload_n 0, 0, 0, .null)] (pc' := 31) (ls' := [some (.ref x0), some (.int x1), some (.int x2), some (.int x3), some (.int x4)]) (st' := [.ref x0]) (by decide +kernel) rfl ?_
    refine b_getC (q := 18) (ci := 8) (k := 2) (w := .null) (by decide +kernel) (fk_C8_2 hx0) ?_
    refine b_run [(34, .aload_n 0, 0, 0, .null)] (pc' := 35) (ls' := [some (.ref x0), some (.int x1), some (.int x2), some (.int x3), some (.int x4)]) (st' := [.ref x0, .ref ((rfF x0 2))]) (by decide +kernel) rfl ?_
    refine b_gI (q := 48) (ci := 8) (k := 10) (w := .null) (by decide +kernel) (fk_I8_10 hx0) (fun c6 => ?_)
    refine b_run [(38, .iload_n 3, 0, 0, .null)] (pc' := 39) (ls' := [some (.ref x0), some (.int x1), some (.int x2), some (.int x3), some (.int x4)]) (st' := [.int x3, .int c6, .ref ((rfF x0 2))]) (by decide +kernel) rfl ?_
    refine b_guard (fun hb => ?_)
    refine b_sI (ci := 0) (y := 0) (w := .null) (by decide +kernel) (fk_A8_2 hx0) hb (fun σ7 => ?_)
    refine b_run [(40, .aload_n 0, 0, 0, .null)] (pc' := 41) (ls' := [some (.ref x0), some (.int x1), some (.int x2), some (.int x3), some (.int x4)]) (st' := [.ref x0]) (by decide +kernel) rfl ?_
    refine b_getC (q := 21) (ci := 8) (k := 3) (w := .null) (by decide +kernel) (fk_C8_3 hx0) ?_
    refine b_run [(44, .aload_n 0, 0, 0, .null)] (pc' := 45) (ls' := [some (.ref x0), some (.int x1), some (.int x2), some (.int x3), some (.int x4)]) (st' := [.ref x0, .ref ((rfF x0 3))]) (by decide +kernel) rfl ?_
    refine b_gI (q := 48) (ci := 8) (k := 10) (w := .null) (by decide +kernel) (fk_I8_10 hx0) (fun c8 => ?_)
    refine b_run [(48, .iload 4, 0, 0, .null)] (pc' := 50) (ls' := [some (.ref x0), some (.int x1), some (.int x2), some (.int x3), some (.int x4)]) (st' := [.int x4, .int c8, .ref ((rfF x0 3))]) (by decide +kernel) rfl ?_
    refine b_guard (fun hb => ?_)
    refine b_sI (ci := 0) (y := 0) (w := .null) (by decide +kernel) (fk_A8_3 hx0) hb (fun σ9 => ?_)
    refine b_run [(51, .aload_n 0, 0, 0, .null), (52, .dup, 0, 0, .null)] (pc' := 53) (ls' := [some (.ref x0), some (.int x1), some (.int x2), some (.int x3), some (.int x4)]) (st' := [.ref x0, .ref x0]) (by decide +kernel) rfl ?_
    refine b_gI (q := 48) (ci := 8) (k := 10) (w := .null) (by decide +kernel) (fk_I8_10 hx0) (fun c10 => ?_)
    refine b_run [(56, .iconst 1, 0, 0, .null), (57, .iadd, 0, 0, .null)] (pc' := 58) (ls' := [some (.ref x0), some (.int x1), some (.int x2), some (.int x3), some (.int x4)]) (st' := [.int (c10 + 1), .ref x0]) (by decide +kernel) rfl ?_
    refine b_pI (q := 48) (ci := 8) (k := 10) (w := .null) (by decide +kernel) (fk_I8_10 hx0) (fit_I _) (fun σ11 => ?_)
    refine b_run [(61, .aload_n 0, 0, 0, .null)] (pc' := 62) (ls' := [some (.ref x0), some (.int x1), some (.int x2), some (.int x3), some (.int x4)]) (st' := [.ref x0]) (by decide +kernel) rfl ?_
    refine b_getC (q := 30) (ci := 8) (k := 6) (w := .null) (by decide +kernel) (fk_C8_6 hx0) ?_
    refine b_run [(65, .aload_n 0, 0, 0, .null)] (pc' := 66) (ls' := [some (.ref x0), some (.int x1), some (.int x2), some (.int x3), some (.int x4)]) (st' := [.ref x0, .ref ((rfF x0 6))]) (by decide +kernel) rfl ?_
    refine b_gI (q := 48) (ci := 8) (k := 10) (w := .null) (by decide +kernel) (fk_I8_10 hx0) (fun c12 => ?_)
    refine b_run [(69, .aload_n 0, 0, 0, .null)] (pc' := 70) (ls' := [some (.ref x0), some (.int x1), some (.int x2), some (.int x3), some (.int x4)]) (st' := [.ref x0, .int c12, .ref ((rfF x0 6))]) (by decide +kernel) rfl ?_
    refine b_getC (q := 41) (ci := 8) (k := 8) (w := .null) (by decide +kernel) (fk_C8_8 hx0) ?_
    refine b_gI (q := 55) (ci := 5) (k := 1) (w := .null) (by decide +kernel) (fk_I5_1 (fk_O8_8 hx0)) (fun c13 => ?_)
    refine b_guard (fun hb => ?_)
    refine b_sI (ci := 0) (y := 0) (w := .null) (by decide +kernel) (fk_A8_6 hx0) hb (fun σ14 => ?_)
    refine b_run [(77, .aload_n 0, 0, 0, .null)] (pc' := 78) (ls' := [some (.ref x0), some (.int x1), some (.int x2), some (.int x3), some (.int x4)]) (st' := [.ref x0]) (by decide +kernel) rfl ?_
    refine b_getC (q := 33) (ci := 8) (k := 7) (w := .null) (by decide +kernel) (fk_C8_7 hx0) ?_
    refine b_run [(81, .aload_n 0, 0, 0, .null)] (pc' := 82) (ls' := [some (.ref x0), some (.int x1), some (.int x2), some (.int x3), some (.int x4)]) (st' := [.ref x0, .ref ((rfF x0 7))]) (by decide +kernel) rfl ?_
    refine b_gI (q := 48) (ci := 8) (k := 10) (w := .null) (by decide +kernel) (fk_I8_10 hx0) (fun c15 => ?_)
    refine b_run [(85, .aload_n 0, 0, 0, .null)] (pc' := 86) (ls' := [some (.ref x0), some (.int x1), some (.int x2), some (.int x3), some (.int x4)]) (st' := [.ref x0, .int c15, .ref ((rfF x0 7))]) (by decide +kernel) rfl ?_
    refine b_getC (q := 45) (ci := 8) (k := 9) (w := .null) (by decide +kernel) (fk_C8_9 hx0) ?_
    refine b_gI (q := 55) (ci := 5) (k := 1) (w := .null) (by decide +kernel) (fk_I5_1 (fk_O8_9 hx0)) (fun c16 => ?_)
    refine b_guard (fun hb => ?_)
    refine b_sI (ci := 0) (y := 0) (w := .null) (by decide +kernel) (fk_A8_7 hx0) hb (fun σ17 => ?_)
    exact b_ret0 (i := (.return_, 0, 0, .null)) (by decide +kernel) rfl rfl
  · exact b_ret0 (i := (.return_, 0, 0, .null)) (by decide +kernel) rfl rfl
def f94_21 (F : Nat) : Nat → Nat → Int32 → Nat → Int32 → St → Rs
  | 0, _, _, _, _, _ => none
  | n + 1, y0, y1, y2, y3, σ => cI (f248 F y2 σ) fun c5 σ4 => 
    if y3 < c5 then 
    if inB (y1 + y3) (laN ((rfF y0 0))) then lt (σ4.1 (rfF y0 0) (y1 + y3).toNatClampNeg) fun c6 => 
    cI (f250 F y2 y3 σ4) fun c8 σ7 => 
    if c6 = c8 then f94_21 F n y0 y1 y2 (y3 + 1) σ7
    else oI 0 σ7 else none
    else oI 1 σ4
theorem s94_21 {sc : aSc} (hv : vOk sc) (F : Nat) : ∀ (n : Nat) (y0 : Nat) (y1 : Int32) (y2 : Nat) (y3 : Int32) (σ : St) (_ : isO y0 5 = true) (_ : isS y2 = true), bEx sc 4 94 21 [some (.ref y0), some (.int y1), some (.ref y2), some (.int y3)] [] σ (f94_21 F n y0 y1 y2 y3 σ) := by
  intro n
  induction n with
  | zero => intro y0 y1 y2 y3 σ hy0 hy2; exact b_none
  | succ n ih =>
    intro y0 y1 y2 y3 σ hy0 hy2
    rw [f94_21.eq_2]
    refine b_run [(21, .iload_n 3, 0, 0, .null), (22, .aload_n 2, 0, 0, .null)] (pc' := 23) (ls' := [some (.ref y0), some (.int y1), some (.ref y2), some (.int y3)]) (st' := [.ref y2, .int y3]) (by decide +kernel) rfl ?_
    refine b_callI 248 1 [.ref y2] (rest := [.int y3]) (by decide +kernel) rfl rfl rfl (go_X rfl (by decide +kernel) hy2) rfl (s248 hv F y2 σ hy2) (by decide) (fun c5 σ4 => ?_)
    refine b_icF (c := .ge) (o := 27) (t := 53) (y := 0) (w := .null) (by decide +kernel) cmp_ge (fun _ => ?_) (fun _ => ?_)
    · refine b_run [(29, .aload_n 0, 0, 0, .null)] (pc' := 30) (ls' := [some (.ref y0), some (.int y1), some (.ref y2), some (.int y3)]) (st' := [.ref y0]) (by decide +kernel) rfl ?_
      refine b_getC (q := 9) (ci := 5) (k := 0) (w := .null) (by decide +kernel) (fk_C5_0 hy0) ?_
      refine b_run [(33, .iload_n 1, 0, 0, .null), (34, .iload_n 3, 0, 0, .null), (35, .iadd, 0, 0, .null)] (pc' := 36) (ls' := [some (.ref y0), some (.int y1), some (.ref y2), some (.int y3)]) (st' := [.int (y1 + y3), .ref ((rfF y0 0))]) (by decide +kernel) rfl ?_
      refine b_guard (fun hb => ?_)
      refine b_aC (ci := 0) (y := 0) (w := .null) (by decide +kernel) (fk_A5_0 hy0) hb (fun c6 => ?_)
      refine b_run [(37, .aload_n 2, 0, 0, .null), (38, .iload_n 3, 0, 0, .null)] (pc' := 39) (ls' := [some (.ref y0), some (.int y1), some (.ref y2), some (.int y3)]) (st' := [.int y3, .ref y2, .int c6]) (by decide +kernel) rfl ?_
      refine b_callI 250 2 [.ref y2, .int y3] (rest := [.int c6]) (by decide +kernel) rfl rfl rfl (go_X rfl (by decide +kernel) hy2) rfl (s250 hv F y2 y3 σ4 hy2) (by decide) (fun c8 σ7 => ?_)
      refine b_icT (c := .eq) (o := 5) (t := 47) (y := 0) (w := .null) (by decide +kernel) cmp_eq (fun _ => ?_) (fun _ => ?_)
      · refine b_run [(47, .iinc 3 1, 0, 0, .null), (50, .goto (-29), 21, 0, .null)] (pc' := 21) (ls' := [some (.ref y0), some (.int y1), some (.ref y2), some (.int (y3 + 1))]) (st' := []) (by decide +kernel) rfl ?_
        exact b_wk (wS (wS (wS (wS w0)))) (ih y0 y1 y2 (y3 + 1) σ7 hy0 hy2)
      · refine b_run [(45, .iconst 0, 0, 0, .null)] (pc' := 46) (ls' := [some (.ref y0), some (.int y1), some (.ref y2), some (.int y3)]) (st' := [.int 0]) (by decide +kernel) rfl ?_
        exact b_ret (i := (.ireturn, 0, 0, .null)) (by decide +kernel) rfl rfl (by decide +kernel)
    · refine b_run [(53, .iconst 1, 0, 0, .null)] (pc' := 54) (ls' := [some (.ref y0), some (.int y1), some (.ref y2), some (.int y3)]) (st' := [.int 1]) (by decide +kernel) rfl ?_
      exact b_ret (i := (.ireturn, 0, 0, .null)) (by decide +kernel) rfl rfl (by decide +kernel)
/-- TreeStore$Row.spells(ILjava/lang/String;)Z -/
def f94 (F : Nat) (x0 : Nat) (x1 : Int32) (x2 : Nat) (σ : St) : Rs := if x1 < 0 then oI 0 σ
    else cI (f248 F x2 σ) fun c2 σ1 => 
    lt (σ1.1 x0 1) fun c3 => 
    if c3 < x1 + c2 then oI 0 σ1
    else f94_21 F F x0 x1 x2 0 σ1
theorem s94 {sc : aSc} (hv : vOk sc) (F : Nat) (x0 : Nat) (x1 : Int32) (x2 : Nat) (σ : St) (hx0 : isO x0 5 = true) (hx2 : isS x2 = true) : bEx sc 4 94 0 [some (.ref x0), some (.int x1), some (.ref x2), none] [] σ (f94 F x0 x1 x2 σ) := by
  unfold f94
  refine b_run [(0, .iload_n 1, 0, 0, .null)] (pc' := 1) (ls' := [some (.ref x0), some (.int x1), some (.ref x2), none]) (st' := [.int x1]) (by decide +kernel) rfl ?_
  refine b_izT (c := .lt) (o := 16) (t := 17) (y := 0) (w := .null) (by decide +kernel) cmp_lt (fun _ => ?_) (fun _ => ?_)
  · refine b_run [(17, .iconst 0, 0, 0, .null)] (pc' := 18) (ls' := [some (.ref x0), some (.int x1), some (.ref x2), none]) (st' := [.int 0]) (by decide +kernel) rfl ?_
    exact b_ret (i := (.ireturn, 0, 0, .null)) (by decide +kernel) rfl rfl (by decide +kernel)
  · refine b_run [(4, .iload_n 1, 0, 0, .null), (5, .aload_n 2, 0, 0, .null)] (pc' := 6) (ls' := [some (.ref x0), some (.int x1), some (.ref x2), none]) (st' := [.ref x2, .int x1]) (by decide +kernel) rfl ?_
    refine b_callI 248 1 [.ref x2] (rest := [.int x1]) (by decide +kernel) rfl rfl rfl (go_X rfl (by decide +kernel) hx2) rfl (s248 hv F x2 σ hx2) (by decide) (fun c2 σ1 => ?_)
    refine b_run [(9, .iadd, 0, 0, .null), (10, .aload_n 0, 0, 0, .null)] (pc' := 11) (ls' := [some (.ref x0), some (.int x1), some (.ref x2), none]) (st' := [.ref x0, .int (x1 + c2)]) (by decide +kernel) rfl ?_
    refine b_gI (q := 15) (ci := 5) (k := 1) (w := .null) (by decide +kernel) (fk_I5_1 hx0) (fun c3 => ?_)
    refine b_icF (c := .le) (o := 5) (t := 19) (y := 0) (w := .null) (by decide +kernel) cmp_le (fun _ => ?_) (fun _ => ?_)
    · refine b_run [(17, .iconst 0, 0, 0, .null)] (pc' := 18) (ls' := [some (.ref x0), some (.int x1), some (.ref x2), none]) (st' := [.int 0]) (by decide +kernel) rfl ?_
      exact b_ret (i := (.ireturn, 0, 0, .null)) (by decide +kernel) rfl rfl (by decide +kernel)
    · refine b_run [(19, .iconst 0, 0, 0, .null), (20, .istore_n 3, 0, 0, .null)] (pc' := 21) (ls' := [some (.ref x0), some (.int x1), some (.ref x2), some (.int 0)]) (st' := []) (by decide +kernel) rfl ?_
      exact b_wk (wS (wS (wS (wS w0)))) (s94_21 hv F F x0 x1 x2 0 σ1 hx0 hx2)
/-- TreeStore$Row.hasRoomFor(I)Z -/
def f89 (F : Nat) (x0 : Nat) (x1 : Int32) (σ : St) : Rs := lt (σ.1 x0 1) fun c1 => 
    if Int32.ofNat (laN ((rfF x0 0))) < c1 + x1 then oI 0 σ
    else oI 1 σ
theorem s89 {sc : aSc} (hv : vOk sc) (F : Nat) (x0 : Nat) (x1 : Int32) (σ : St) (hx0 : isO x0 5 = true) : bEx sc 0 89 0 [some (.ref x0), some (.int x1)] [] σ (f89 F x0 x1 σ) := by
  unfold f89
  refine b_run [(0, .aload_n 0, 0, 0, .null)] (pc' := 1) (ls' := [some (.ref x0), some (.int x1)]) (st' := [.ref x0]) (by decide +kernel) rfl ?_
  refine b_gI (q := 15) (ci := 5) (k := 1) (w := .null) (by decide +kernel) (fk_I5_1 hx0) (fun c1 => ?_)
  refine b_run [(4, .iload_n 1, 0, 0, .null), (5, .iadd, 0, 0, .null), (6, .aload_n 0, 0, 0, .null)] (pc' := 7) (ls' := [some (.ref x0), some (.int x1)]) (st' := [.ref x0, .int (c1 + x1)]) (by decide +kernel) rfl ?_
  refine b_getC (q := 9) (ci := 5) (k := 0) (w := .null) (by decide +kernel) (fk_C5_0 hx0) ?_
  refine b_len (ci := 0) (y := 0) (w := .null) (n := (laN ((rfF x0 0)))) (by decide +kernel) (fk_A5_0 hx0) ?_
  refine b_icT (c := .gt) (o := 7) (t := 18) (y := 0) (w := .null) (by decide +kernel) cmp_gt (fun _ => ?_) (fun _ => ?_)
  · refine b_run [(18, .iconst 0, 0, 0, .null)] (pc' := 19) (ls' := [some (.ref x0), some (.int x1)]) (st' := [.int 0]) (by decide +kernel) rfl ?_
    exact b_ret (i := (.ireturn, 0, 0, .null)) (by decide +kernel) rfl rfl (by decide +kernel)
  · refine b_run [(14, .iconst 1, 0, 0, .null), (15, .goto 4, 19, 0, .null)] (pc' := 19) (ls' := [some (.ref x0), some (.int x1)]) (st' := [.int 1]) (by decide +kernel) rfl ?_
    exact b_ret (i := (.ireturn, 0, 0, .null)) (by decide +kernel) rfl rfl (by decide +kernel)
/-- TreeStore$Row.put(ILTreeStore$Row;II)V -/
def f95 (F : Nat) (x0 : Nat) (x1 : Int32) (x2 : Nat) (x3 : Int32) (x4 : Int32) (σ : St) : Rs := if x4 < 0 then oV σ
    else cI (f89 F x0 x4 σ) fun c2 σ1 => 
    if c2 = 0 then oV σ1
    else if x1 < 0 then oV σ1
    else lt (σ1.1 x0 1) fun c3 => 
    if c3 < x1 then oV σ1
    else if x3 < 0 then oV σ1
    else lt (σ1.1 x2 1) fun c4 => 
    if c4 < x3 + x4 then oV σ1
    else lt (σ1.1 x0 1) fun c5 => 
    if cpB x1 (x1 + x4) (c5 - x1) (laN ((rfF x0 0))) (laN ((rfF x0 0))) then lt (uF σ1 (rfF x0 0) (va_cpy (σ1.1 (rfF x0 0)) (σ1.1 (rfF x0 0)) x1.toNatClampNeg (x1 + x4).toNatClampNeg (c5 - x1).toNatClampNeg)) fun σ6 => 
    if cpB x3 x1 x4 (laN ((rfF x2 0))) (laN ((rfF x0 0))) then lt (uF σ6 (rfF x0 0) (va_cpy (σ6.1 (rfF x2 0)) (σ6.1 (rfF x0 0)) x3.toNatClampNeg x1.toNatClampNeg x4.toNatClampNeg)) fun σ7 => lt (σ7.1 x0 1) fun c8 => lt (uI σ7 x0 1 (c8 + x4)) fun σ9 => oV σ9 else none else none
theorem s95 {sc : aSc} (hv : vOk sc) (F : Nat) (x0 : Nat) (x1 : Int32) (x2 : Nat) (x3 : Int32) (x4 : Int32) (σ : St) (hx0 : isO x0 5 = true) (hx2 : isO x2 5 = true) : bEx sc 1 95 0 [some (.ref x0), some (.int x1), some (.ref x2), some (.int x3), some (.int x4)] [] σ (f95 F x0 x1 x2 x3 x4 σ) := by
  unfold f95
  refine b_run [(0, .iload 4, 0, 0, .null)] (pc' := 2) (ls' := [some (.ref x0), some (.int x1), some (.ref x2), some (.int x3), some (.int x4)]) (st' := [.int x4]) (by decide +kernel) rfl ?_
  refine b_izT (c := .lt) (o := 39) (t := 41) (y := 0) (w := .null) (by decide +kernel) cmp_lt (fun _ => ?_) (fun _ => ?_)
  · exact b_ret0 (i := (.return_, 0, 0, .null)) (by decide +kernel) rfl rfl
  · refine b_run [(5, .aload_n 0, 0, 0, .null), (6, .iload 4, 0, 0, .null)] (pc' := 8) (ls' := [some (.ref x0), some (.int x1), some (.ref x2), some (.int x3), some (.int x4)]) (st' := [.int x4, .ref x0]) (by decide +kernel) rfl ?_
    refine b_callI 89 2 [.ref x0, .int x4] (rest := []) (by decide +kernel) rfl rfl rfl (go_O rfl (by decide +kernel) hx0) rfl (s89 hv F x0 x4 σ hx0) (by decide) (fun c2 σ1 => ?_)
    refine b_izT (c := .eq) (o := 30) (t := 41) (y := 0) (w := .null) (by decide +kernel) cmp_eq (fun _ => ?_) (fun _ => ?_)
    · exact b_ret0 (i := (.return_, 0, 0, .null)) (by decide +kernel) rfl rfl
    · refine b_run [(14, .iload_n 1, 0, 0, .null)] (pc' := 15) (ls' := [some (.ref x0), some (.int x1), some (.ref x2), some (.int x3), some (.int x4)]) (st' := [.int x1]) (by decide +kernel) rfl ?_
      refine b_izT (c := .lt) (o := 26) (t := 41) (y := 0) (w := .null) (by decide +kernel) cmp_lt (fun _ => ?_) (fun _ => ?_)
      · exact b_ret0 (i := (.return_, 0, 0, .null)) (by decide +kernel) rfl rfl
      · refine b_run [(18, .iload_n 1, 0, 0, .null), (19, .aload_n 0, 0, 0, .null)] (pc' := 20) (ls' := [some (.ref x0), some (.int x1), some (.ref x2), some (.int x3), some (.int x4)]) (st' := [.ref x0, .int x1]) (by decide +kernel) rfl ?_
        refine b_gI (q := 15) (ci := 5) (k := 1) (w := .null) (by decide +kernel) (fk_I5_1 hx0) (fun c3 => ?_)
        refine b_icT (c := .gt) (o := 18) (t := 41) (y := 0) (w := .null) (by decide +kernel) cmp_gt (fun _ => ?_) (fun _ => ?_)
        · exact b_ret0 (i := (.return_, 0, 0, .null)) (by decide +kernel) rfl rfl
        · refine b_run [(26, .iload_n 3, 0, 0, .null)] (pc' := 27) (ls' := [some (.ref x0), some (.int x1), some (.ref x2), some (.int x3), some (.int x4)]) (st' := [.int x3]) (by decide +kernel) rfl ?_
          refine b_izT (c := .lt) (o := 14) (t := 41) (y := 0) (w := .null) (by decide +kernel) cmp_lt (fun _ => ?_) (fun _ => ?_)
          · exact b_ret0 (i := (.return_, 0, 0, .null)) (by decide +kernel) rfl rfl
          · refine b_run [(30, .iload_n 3, 0, 0, .null), (31, .iload 4, 0, 0, .null), (33, .iadd, 0, 0, .null), (34, .aload_n 2, 0, 0, .null)] (pc' := 35) (ls' := [some (.ref x0), some (.int x1), some (.ref x2), some (.int x3), some (.int x4)]) (st' := [.ref x2, .int (x3 + x4)]) (by decide +kernel) rfl ?_
            refine b_gI (q := 15) (ci := 5) (k := 1) (w := .null) (by decide +kernel) (fk_I5_1 hx2) (fun c4 => ?_)
            refine b_icF (c := .le) (o := 4) (t := 42) (y := 0) (w := .null) (by decide +kernel) cmp_le (fun _ => ?_) (fun _ => ?_)
            · exact b_ret0 (i := (.return_, 0, 0, .null)) (by decide +kernel) rfl rfl
            · refine b_run [(42, .aload_n 0, 0, 0, .null)] (pc' := 43) (ls' := [some (.ref x0), some (.int x1), some (.ref x2), some (.int x3), some (.int x4)]) (st' := [.ref x0]) (by decide +kernel) rfl ?_
              refine b_getC (q := 9) (ci := 5) (k := 0) (w := .null) (by decide +kernel) (fk_C5_0 hx0) ?_
              refine b_run [(46, .iload_n 1, 0, 0, .null), (47, .aload_n 0, 0, 0, .null)] (pc' := 48) (ls' := [some (.ref x0), some (.int x1), some (.ref x2), some (.int x3), some (.int x4)]) (st' := [.ref x0, .int x1, .ref ((rfF x0 0))]) (by decide +kernel) rfl ?_
              refine b_getC (q := 9) (ci := 5) (k := 0) (w := .null) (by decide +kernel) (fk_C5_0 hx0) ?_
              refine b_run [(51, .iload_n 1, 0, 0, .null), (52, .iload 4, 0, 0, .null), (54, .iadd, 0, 0, .null), (55, .aload_n 0, 0, 0, .null)] (pc' := 56) (ls' := [some (.ref x0), some (.int x1), some (.ref x2), some (.int x3), some (.int x4)]) (st' := [.ref x0, .int (x1 + x4), .ref ((rfF x0 0)), .int x1, .ref ((rfF x0 0))]) (by decide +kernel) rfl ?_
              refine b_gI (q := 15) (ci := 5) (k := 1) (w := .null) (by decide +kernel) (fk_I5_1 hx0) (fun c5 => ?_)
              refine b_run [(59, .iload_n 1, 0, 0, .null), (60, .isub, 0, 0, .null)] (pc' := 61) (ls' := [some (.ref x0), some (.int x1), some (.ref x2), some (.int x3), some (.int x4)]) (st' := [.int (c5 - x1), .int (x1 + x4), .ref ((rfF x0 0)), .int x1, .ref ((rfF x0 0))]) (by decide +kernel) rfl ?_
              refine b_guard (fun hb => ?_)
              refine b_cp (t := 1) (rest := []) (by decide +kernel) rfl (fk_A5_0 hx0) (fk_A5_0 hx0) (by decide) hb (fun σ6 => ?_)
              refine b_run [(64, .aload_n 2, 0, 0, .null)] (pc' := 65) (ls' := [some (.ref x0), some (.int x1), some (.ref x2), some (.int x3), some (.int x4)]) (st' := [.ref x2]) (by decide +kernel) rfl ?_
              refine b_getC (q := 9) (ci := 5) (k := 0) (w := .null) (by decide +kernel) (fk_C5_0 hx2) ?_
              refine b_run [(68, .iload_n 3, 0, 0, .null), (69, .aload_n 0, 0, 0, .null)] (pc' := 70) (ls' := [some (.ref x0), some (.int x1), some (.ref x2), some (.int x3), some (.int x4)]) (st' := [.ref x0, .int x3, .ref ((rfF x2 0))]) (by decide +kernel) rfl ?_
              refine b_getC (q := 9) (ci := 5) (k := 0) (w := .null) (by decide +kernel) (fk_C5_0 hx0) ?_
              refine b_run [(73, .iload_n 1, 0, 0, .null), (74, .iload 4, 0, 0, .null)] (pc' := 76) (ls' := [some (.ref x0), some (.int x1), some (.ref x2), some (.int x3), some (.int x4)]) (st' := [.int x4, .int x1, .ref ((rfF x0 0)), .int x3, .ref ((rfF x2 0))]) (by decide +kernel) rfl ?_
              refine b_guard (fun hb => ?_)
              refine b_cp (t := 1) (rest := []) (by decide +kernel) rfl (fk_A5_0 hx2) (fk_A5_0 hx0) (by decide) hb (fun σ7 => ?_)
              refine b_run [(79, .aload_n 0, 0, 0, .null), (80, .dup, 0, 0, .null)] (pc' := 81) (ls' := [some (.ref x0), some (.int x1), some (.ref x2), some (.int x3), some (.int x4)]) (st' := [.ref x0, .ref x0]) (by decide +kernel) rfl ?_
              refine b_gI (q := 15) (ci := 5) (k := 1) (w := .null) (by decide +kernel) (fk_I5_1 hx0) (fun c8 => ?_)
              refine b_run [(84, .iload 4, 0, 0, .null), (86, .iadd, 0, 0, .null)] (pc' := 87) (ls' := [some (.ref x0), some (.int x1), some (.ref x2), some (.int x3), some (.int x4)]) (st' := [.int (c8 + x4), .ref x0]) (by decide +kernel) rfl ?_
              refine b_pI (q := 15) (ci := 5) (k := 1) (w := .null) (by decide +kernel) (fk_I5_1 hx0) (fit_I _) (fun σ9 => ?_)
              exact b_ret0 (i := (.return_, 0, 0, .null)) (by decide +kernel) rfl rfl
def f109_111 (F : Nat) (y1 : Int32) (y2 : Int32) (y3 : Int32) (σ : St) : Rs := cV (f110 F 62 σ) fun σ28 => 
    lt (σ28.1 1027 1) fun c30 => cV (f95 F 1027 c30 1001 y2 y3 σ28) fun σ31 => cV (f124 F 1016 4 y1 0 y3 σ31) fun σ33 => oV σ33
theorem s109_111 {sc : aSc} (hv : vOk sc) (F : Nat) (y1 : Int32) (y2 : Int32) (y3 : Int32) (σ : St) : bEx sc 5 109 111 [some (.ref 1029), some (.int y1), some (.int y2), some (.int y3)] [] σ (f109_111 F y1 y2 y3 σ) := by
  unfold f109_111
  refine b_run [(111, .aload_n 0, 0, 0, .null), (112, .bipush 62, 0, 0, .null)] (pc' := 114) (ls' := [some (.ref 1029), some (.int y1), some (.int y2), some (.int y3)]) (st' := [.int 62, .ref 1029]) (by decide +kernel) rfl ?_
  refine b_callV 110 2 [.ref 1029, .int 62] (rest := []) (by decide +kernel) rfl rfl rfl (go_O rfl (by decide +kernel) (by decide +kernel : isO 1029 7 = true)) rfl (s110 hv F 62 σ) (by decide) (fun σ28 => ?_)
  refine b_run [(117, .aload_n 0, 0, 0, .null)] (pc' := 118) (ls' := [some (.ref 1029), some (.int y1), some (.int y2), some (.int y3)]) (st' := [.ref 1029]) (by decide +kernel) rfl ?_
  refine b_getC (b := 1016) (q := 15) (ci := 7) (k := 1) (w := .null) (by decide +kernel) (by decide +kernel) ?_
  refine b_getC (b := 1027) (q := 107) (ci := 8) (k := 9) (w := .null) (by decide +kernel) (by decide +kernel) ?_
  refine b_run [(124, .aload_n 0, 0, 0, .null)] (pc' := 125) (ls' := [some (.ref 1029), some (.int y1), some (.int y2), some (.int y3)]) (st' := [.ref 1029, .ref 1027]) (by decide +kernel) rfl ?_
  refine b_getC (b := 1016) (q := 15) (ci := 7) (k := 1) (w := .null) (by decide +kernel) (by decide +kernel) ?_
  refine b_getC (b := 1027) (q := 107) (ci := 8) (k := 9) (w := .null) (by decide +kernel) (by decide +kernel) ?_
  refine b_gI (q := 51) (ci := 5) (k := 1) (w := .null) (by decide +kernel) (by decide +kernel) (fun c30 => ?_)
  refine b_run [(134, .aload_n 0, 0, 0, .null)] (pc' := 135) (ls' := [some (.ref 1029), some (.int y1), some (.int y2), some (.int y3)]) (st' := [.ref 1029, .int c30, .ref 1027]) (by decide +kernel) rfl ?_
  refine b_getC (b := 1001) (q := 9) (ci := 7) (k := 0) (w := .null) (by decide +kernel) (by decide +kernel) ?_
  refine b_run [(138, .iload_n 2, 0, 0, .null), (139, .iload_n 3, 0, 0, .null)] (pc' := 140) (ls' := [some (.ref 1029), some (.int y1), some (.int y2), some (.int y3)]) (st' := [.int y3, .int y2, .ref 1001, .int c30, .ref 1027]) (by decide +kernel) rfl ?_
  refine b_callV 95 5 [.ref 1027, .int c30, .ref 1001, .int y2, .int y3] (rest := []) (by decide +kernel) rfl rfl rfl (go_O rfl (by decide +kernel) (by decide +kernel : isO 1027 5 = true)) rfl (s95 hv F 1027 c30 1001 y2 y3 σ28 (by decide +kernel : isO 1027 5 = true) (by decide +kernel : isO 1001 5 = true)) (by decide) (fun σ31 => ?_)
  refine b_run [(143, .aload_n 0, 0, 0, .null)] (pc' := 144) (ls' := [some (.ref 1029), some (.int y1), some (.int y2), some (.int y3)]) (st' := [.ref 1029]) (by decide +kernel) rfl ?_
  refine b_getC (b := 1016) (q := 15) (ci := 7) (k := 1) (w := .null) (by decide +kernel) (by decide +kernel) ?_
  refine b_run [(147, .iconst 4, 0, 0, .null), (148, .iload_n 1, 0, 0, .null), (149, .iconst 0, 0, 0, .null), (150, .iload_n 3, 0, 0, .null)] (pc' := 151) (ls' := [some (.ref 1029), some (.int y1), some (.int y2), some (.int y3)]) (st' := [.int y3, .int 0, .int y1, .int 4, .ref 1016]) (by decide +kernel) rfl ?_
  refine b_callV 124 5 [.ref 1016, .int 4, .int y1, .int 0, .int y3] (rest := []) (by decide +kernel) rfl rfl rfl (go_O rfl (by decide +kernel) (by decide +kernel : isO 1016 8 = true)) rfl (s124 hv F 1016 4 y1 0 y3 σ31 (by decide +kernel : isO 1016 8 = true)) (by decide) (fun σ33 => ?_)
  exact b_ret0 (i := (.return_, 0, 0, .null)) (by decide +kernel) rfl rfl
def f109_72 (F : Nat) (y1 : Int32) (y2 : Int32) (σ : St) : Rs := lt (σ.1 1029 2) fun c17 => 
    lt (c17 - y2) fun c18 => 
    cV (f110 F 45 σ) fun σ19 => 
    cV (f110 F 45 σ19) fun σ21 => 
    lt (σ21.1 1029 2) fun c23 => 
    cI (f92 F 1001 c23 σ21) fun c25 σ24 => 
    if c25 = 62 then cV (f111 F σ24) fun σ26 => f109_111 F y1 y2 c18 σ26
    else f109_111 F y1 y2 c18 σ24
theorem s109_72 {sc : aSc} (hv : vOk sc) (F : Nat) (y1 : Int32) (y2 : Int32) (σ : St) : bEx sc 5 109 72 [some (.ref 1029), some (.int y1), some (.int y2), none] [] σ (f109_72 F y1 y2 σ) := by
  unfold f109_72
  refine b_run [(72, .aload_n 0, 0, 0, .null)] (pc' := 73) (ls' := [some (.ref 1029), some (.int y1), some (.int y2), none]) (st' := [.ref 1029]) (by decide +kernel) rfl ?_
  refine b_gI (q := 19) (ci := 7) (k := 2) (w := .null) (by decide +kernel) (by decide +kernel) (fun c17 => ?_)
  refine b_run [(76, .iload_n 2, 0, 0, .null), (77, .isub, 0, 0, .null), (78, .istore_n 3, 0, 0, .null)] (pc' := 79) (ls' := [some (.ref 1029), some (.int y1), some (.int y2), some (.int (c17 - y2))]) (st' := []) (by decide +kernel) rfl ?_
  refine b_let (c17 - y2) (L := fun c18 => [some (.ref 1029), some (.int y1), some (.int y2), some (.int c18)]) (S := fun _ => []) (fun c18 => ?_)
  refine b_run [(79, .aload_n 0, 0, 0, .null), (80, .bipush 45, 0, 0, .null)] (pc' := 82) (ls' := [some (.ref 1029), some (.int y1), some (.int y2), some (.int c18)]) (st' := [.int 45, .ref 1029]) (by decide +kernel) rfl ?_
  refine b_callV 110 2 [.ref 1029, .int 45] (rest := []) (by decide +kernel) rfl rfl rfl (go_O rfl (by decide +kernel) (by decide +kernel : isO 1029 7 = true)) rfl (s110 hv F 45 σ) (by decide) (fun σ19 => ?_)
  refine b_run [(85, .aload_n 0, 0, 0, .null), (86, .bipush 45, 0, 0, .null)] (pc' := 88) (ls' := [some (.ref 1029), some (.int y1), some (.int y2), some (.int c18)]) (st' := [.int 45, .ref 1029]) (by decide +kernel) rfl ?_
  refine b_callV 110 2 [.ref 1029, .int 45] (rest := []) (by decide +kernel) rfl rfl rfl (go_O rfl (by decide +kernel) (by decide +kernel : isO 1029 7 = true)) rfl (s110 hv F 45 σ19) (by decide) (fun σ21 => ?_)
  refine b_run [(91, .aload_n 0, 0, 0, .null)] (pc' := 92) (ls' := [some (.ref 1029), some (.int y1), some (.int y2), some (.int c18)]) (st' := [.ref 1029]) (by decide +kernel) rfl ?_
  refine b_getC (b := 1001) (q := 9) (ci := 7) (k := 0) (w := .null) (by decide +kernel) (by decide +kernel) ?_
  refine b_run [(95, .aload_n 0, 0, 0, .null)] (pc' := 96) (ls' := [some (.ref 1029), some (.int y1), some (.int y2), some (.int c18)]) (st' := [.ref 1029, .ref 1001]) (by decide +kernel) rfl ?_
  refine b_gI (q := 19) (ci := 7) (k := 2) (w := .null) (by decide +kernel) (by decide +kernel) (fun c23 => ?_)
  refine b_callI 92 2 [.ref 1001, .int c23] (rest := []) (by decide +kernel) rfl rfl rfl (go_O rfl (by decide +kernel) (by decide +kernel : isO 1001 5 = true)) rfl (s92 hv F 1001 c23 σ21 (by decide +kernel : isO 1001 5 = true)) (by decide) (fun c25 σ24 => ?_)
  refine b_run [(102, .bipush 62, 0, 0, .null)] (pc' := 104) (ls' := [some (.ref 1029), some (.int y1), some (.int y2), some (.int c18)]) (st' := [.int 62, .int c25]) (by decide +kernel) rfl ?_
  refine b_icF (c := .ne) (o := 7) (t := 111) (y := 0) (w := .null) (by decide +kernel) cmp_ne (fun _ => ?_) (fun _ => ?_)
  · refine b_run [(107, .aload_n 0, 0, 0, .null)] (pc' := 108) (ls' := [some (.ref 1029), some (.int y1), some (.int y2), some (.int c18)]) (st' := [.ref 1029]) (by decide +kernel) rfl ?_
    refine b_callV 111 1 [.ref 1029] (rest := []) (by decide +kernel) rfl rfl rfl (go_O rfl (by decide +kernel) (by decide +kernel : isO 1029 7 = true)) rfl (s111 hv F σ24) (by decide) (fun σ26 => ?_)
    exact b_wk (wS (wS (wS (wS w0)))) (s109_111 hv F y1 y2 c18 σ26)
  · exact b_wk (wS (wS (wS (wS w0)))) (s109_111 hv F y1 y2 c18 σ24)
def f109_29 (F : Nat) : Nat → Int32 → Int32 → St → Rs
  | 0, _, _, _ => none
  | n + 1, y1, y2, σ => lt (σ.1 1029 2) fun c10 => 
    lt (σ.1 1001 1) fun c11 => 
    if c10 < c11 then 
    lt (σ.1 1029 2) fun c12 => 
    cI (f94 F 1001 c12 16 σ) fun c14 σ13 => 
    if c14 = 0 then lt (σ13.1 1029 2) fun c15 => lt (uI σ13 1029 2 (c15 + 1)) fun σ16 => f109_29 F n y1 y2 σ16
    else f109_72 F y1 y2 σ13
    else f109_72 F y1 y2 σ
theorem s109_29 {sc : aSc} (hv : vOk sc) (F : Nat) : ∀ (n : Nat) (y1 : Int32) (y2 : Int32) (σ : St), bEx sc 5 109 29 [some (.ref 1029), some (.int y1), some (.int y2), none] [] σ (f109_29 F n y1 y2 σ) := by
  intro n
  induction n with
  | zero => intro y1 y2 σ; exact b_none
  | succ n ih =>
    intro y1 y2 σ
    rw [f109_29.eq_2]
    refine b_run [(29, .aload_n 0, 0, 0, .null)] (pc' := 30) (ls' := [some (.ref 1029), some (.int y1), some (.int y2), none]) (st' := [.ref 1029]) (by decide +kernel) rfl ?_
    refine b_gI (q := 19) (ci := 7) (k := 2) (w := .null) (by decide +kernel) (by decide +kernel) (fun c10 => ?_)
    refine b_run [(33, .aload_n 0, 0, 0, .null)] (pc' := 34) (ls' := [some (.ref 1029), some (.int y1), some (.int y2), none]) (st' := [.ref 1029, .int c10]) (by decide +kernel) rfl ?_
    refine b_getC (b := 1001) (q := 9) (ci := 7) (k := 0) (w := .null) (by decide +kernel) (by decide +kernel) ?_
    refine b_gI (q := 51) (ci := 5) (k := 1) (w := .null) (by decide +kernel) (by decide +kernel) (fun c11 => ?_)
    refine b_icF (c := .ge) (o := 32) (t := 72) (y := 0) (w := .null) (by decide +kernel) cmp_ge (fun _ => ?_) (fun _ => ?_)
    · refine b_run [(43, .aload_n 0, 0, 0, .null)] (pc' := 44) (ls' := [some (.ref 1029), some (.int y1), some (.int y2), none]) (st' := [.ref 1029]) (by decide +kernel) rfl ?_
      refine b_getC (b := 1001) (q := 9) (ci := 7) (k := 0) (w := .null) (by decide +kernel) (by decide +kernel) ?_
      refine b_run [(47, .aload_n 0, 0, 0, .null)] (pc' := 48) (ls' := [some (.ref 1029), some (.int y1), some (.int y2), none]) (st' := [.ref 1029, .ref 1001]) (by decide +kernel) rfl ?_
      refine b_gI (q := 19) (ci := 7) (k := 2) (w := .null) (by decide +kernel) (by decide +kernel) (fun c12 => ?_)
      refine b_run [(51, .ldc 164, 0, 15, .ref 16)] (pc' := 53) (ls' := [some (.ref 1029), some (.int y1), some (.int y2), none]) (st' := [.ref 16, .int c12, .ref 1001]) (by decide +kernel) rfl ?_
      refine b_callI 94 3 [.ref 1001, .int c12, .ref 16] (rest := []) (by decide +kernel) rfl rfl rfl (go_O rfl (by decide +kernel) (by decide +kernel : isO 1001 5 = true)) rfl (s94 hv F 1001 c12 16 σ (by decide +kernel : isO 1001 5 = true) (by decide +kernel : isS 16 = true)) (by decide) (fun c14 σ13 => ?_)
      refine b_izF (c := .ne) (o := 16) (t := 72) (y := 0) (w := .null) (by decide +kernel) cmp_ne (fun _ => ?_) (fun _ => ?_)
      · refine b_run [(59, .aload_n 0, 0, 0, .null), (60, .dup, 0, 0, .null)] (pc' := 61) (ls' := [some (.ref 1029), some (.int y1), some (.int y2), none]) (st' := [.ref 1029, .ref 1029]) (by decide +kernel) rfl ?_
        refine b_gI (q := 19) (ci := 7) (k := 2) (w := .null) (by decide +kernel) (by decide +kernel) (fun c15 => ?_)
        refine b_run [(64, .iconst 1, 0, 0, .null), (65, .iadd, 0, 0, .null)] (pc' := 66) (ls' := [some (.ref 1029), some (.int y1), some (.int y2), none]) (st' := [.int (c15 + 1), .ref 1029]) (by decide +kernel) rfl ?_
        refine b_pI (q := 19) (ci := 7) (k := 2) (w := .null) (by decide +kernel) (by decide +kernel) (fit_I _) (fun σ16 => ?_)
        refine b_run [(69, .goto (-40), 29, 0, .null)] (pc' := 29) (ls' := [some (.ref 1029), some (.int y1), some (.int y2), none]) (st' := []) (by decide +kernel) rfl ?_
        exact b_wk (wS (wS (wS (wN w0)))) (ih y1 y2 σ16)
      · exact b_wk (wS (wS (wS (wN w0)))) (s109_72 hv F y1 y2 σ13)
    · exact b_wk (wS (wS (wS (wN w0)))) (s109_72 hv F y1 y2 σ)
/-- TreeStore$TextReader.readComment(I)V -/
def f109 (F : Nat) (x1 : Int32) (σ : St) : Rs := cV (f110 F 60 σ) fun σ1 => 
    cV (f110 F 33 σ1) fun σ3 => cV (f110 F 45 σ3) fun σ5 => cV (f110 F 45 σ5) fun σ7 => lt (σ7.1 1029 2) fun c9 => f109_29 F F x1 c9 σ7
theorem s109 {sc : aSc} (hv : vOk sc) (F : Nat) (x1 : Int32) (σ : St) : bEx sc 5 109 0 [some (.ref 1029), some (.int x1), none, none] [] σ (f109 F x1 σ) := by
  unfold f109
  refine b_run [(0, .aload_n 0, 0, 0, .null), (1, .bipush 60, 0, 0, .null)] (pc' := 3) (ls' := [some (.ref 1029), some (.int x1), none, none]) (st' := [.int 60, .ref 1029]) (by decide +kernel) rfl ?_
  refine b_callV 110 2 [.ref 1029, .int 60] (rest := []) (by decide +kernel) rfl rfl rfl (go_O rfl (by decide +kernel) (by decide +kernel : isO 1029 7 = true)) rfl (s110 hv F 60 σ) (by decide) (fun σ1 => ?_)
  refine b_run [(6, .aload_n 0, 0, 0, .null), (7, .bipush 33, 0, 0, .null)] (pc' := 9) (ls' := [some (.ref 1029), some (.int x1), none, none]) (st' := [.int 33, .ref 1029]) (by decide +kernel) rfl ?_
  refine b_callV 110 2 [.ref 1029, .int 33] (rest := []) (by decide +kernel) rfl rfl rfl (go_O rfl (by decide +kernel) (by decide +kernel : isO 1029 7 = true)) rfl (s110 hv F 33 σ1) (by decide) (fun σ3 => ?_)
  refine b_run [(12, .aload_n 0, 0, 0, .null), (13, .bipush 45, 0, 0, .null)] (pc' := 15) (ls' := [some (.ref 1029), some (.int x1), none, none]) (st' := [.int 45, .ref 1029]) (by decide +kernel) rfl ?_
  refine b_callV 110 2 [.ref 1029, .int 45] (rest := []) (by decide +kernel) rfl rfl rfl (go_O rfl (by decide +kernel) (by decide +kernel : isO 1029 7 = true)) rfl (s110 hv F 45 σ3) (by decide) (fun σ5 => ?_)
  refine b_run [(18, .aload_n 0, 0, 0, .null), (19, .bipush 45, 0, 0, .null)] (pc' := 21) (ls' := [some (.ref 1029), some (.int x1), none, none]) (st' := [.int 45, .ref 1029]) (by decide +kernel) rfl ?_
  refine b_callV 110 2 [.ref 1029, .int 45] (rest := []) (by decide +kernel) rfl rfl rfl (go_O rfl (by decide +kernel) (by decide +kernel : isO 1029 7 = true)) rfl (s110 hv F 45 σ5) (by decide) (fun σ7 => ?_)
  refine b_run [(24, .aload_n 0, 0, 0, .null)] (pc' := 25) (ls' := [some (.ref 1029), some (.int x1), none, none]) (st' := [.ref 1029]) (by decide +kernel) rfl ?_
  refine b_gI (q := 19) (ci := 7) (k := 2) (w := .null) (by decide +kernel) (by decide +kernel) (fun c9 => ?_)
  refine b_run [(28, .istore_n 2, 0, 0, .null)] (pc' := 29) (ls' := [some (.ref 1029), some (.int x1), some (.int c9), none]) (st' := []) (by decide +kernel) rfl ?_
  exact b_wk (wS (wS (wS (wN w0)))) (s109_29 hv F F x1 c9 σ7)
/-- TreeStore$TextReader.commentComes()Z -/
def f108 (F : Nat) (σ : St) : Rs := lt (σ.1 1029 2) fun c1 => 
    cI (f94 F 1001 c1 10 σ) fun c3 σ2 => 
    if c3 = 0 then 
    lt (σ2.1 1029 2) fun c4 => 
    cI (f94 F 1001 c4 11 σ2) fun c6 σ5 => 
    if c6 = 0 then 
    lt (σ5.1 1029 2) fun c7 => 
    cI (f94 F 1001 c7 12 σ5) fun c9 σ8 => 
    if c9 = 0 then lt (σ8.1 1029 2) fun c10 => cI (f94 F 1001 c10 14 σ8) fun c12 σ11 => if c12 = 0 ∨ c12 = 1 then oI c12 σ11 else none
    else oT 13 σ8
    else oT 13 σ5
    else oT 13 σ2
theorem s108 {sc : aSc} (hv : vOk sc) (F : Nat) (σ : St) : bEx sc 5 108 0 [some (.ref 1029)] [] σ (f108 F σ) := by
  unfold f108
  refine b_run [(0, .aload_n 0, 0, 0, .null)] (pc' := 1) (ls' := [some (.ref 1029)]) (st' := [.ref 1029]) (by decide +kernel) rfl ?_
  refine b_getC (b := 1001) (q := 9) (ci := 7) (k := 0) (w := .null) (by decide +kernel) (by decide +kernel) ?_
  refine b_run [(4, .aload_n 0, 0, 0, .null)] (pc' := 5) (ls' := [some (.ref 1029)]) (st' := [.ref 1029, .ref 1001]) (by decide +kernel) rfl ?_
  refine b_gI (q := 19) (ci := 7) (k := 2) (w := .null) (by decide +kernel) (by decide +kernel) (fun c1 => ?_)
  refine b_run [(8, .ldc 73, 0, 9, .ref 10)] (pc' := 10) (ls' := [some (.ref 1029)]) (st' := [.ref 10, .int c1, .ref 1001]) (by decide +kernel) rfl ?_
  refine b_callI 94 3 [.ref 1001, .int c1, .ref 10] (rest := []) (by decide +kernel) rfl rfl rfl (go_O rfl (by decide +kernel) (by decide +kernel : isO 1001 5 = true)) rfl (s94 hv F 1001 c1 10 σ (by decide +kernel : isO 1001 5 = true) (by decide +kernel : isS 10 = true)) (by decide) (fun c3 σ2 => ?_)
  refine b_izF (c := .ne) (o := 35) (t := 48) (y := 0) (w := .null) (by decide +kernel) cmp_ne (fun _ => ?_) (fun _ => ?_)
  · refine b_run [(16, .aload_n 0, 0, 0, .null)] (pc' := 17) (ls' := [some (.ref 1029)]) (st' := [.ref 1029]) (by decide +kernel) rfl ?_
    refine b_getC (b := 1001) (q := 9) (ci := 7) (k := 0) (w := .null) (by decide +kernel) (by decide +kernel) ?_
    refine b_run [(20, .aload_n 0, 0, 0, .null)] (pc' := 21) (ls' := [some (.ref 1029)]) (st' := [.ref 1029, .ref 1001]) (by decide +kernel) rfl ?_
    refine b_gI (q := 19) (ci := 7) (k := 2) (w := .null) (by decide +kernel) (by decide +kernel) (fun c4 => ?_)
    refine b_run [(24, .ldc 79, 0, 10, .ref 11)] (pc' := 26) (ls' := [some (.ref 1029)]) (st' := [.ref 11, .int c4, .ref 1001]) (by decide +kernel) rfl ?_
    refine b_callI 94 3 [.ref 1001, .int c4, .ref 11] (rest := []) (by decide +kernel) rfl rfl rfl (go_O rfl (by decide +kernel) (by decide +kernel : isO 1001 5 = true)) rfl (s94 hv F 1001 c4 11 σ2 (by decide +kernel : isO 1001 5 = true) (by decide +kernel : isS 11 = true)) (by decide) (fun c6 σ5 => ?_)
    refine b_izF (c := .ne) (o := 19) (t := 48) (y := 0) (w := .null) (by decide +kernel) cmp_ne (fun _ => ?_) (fun _ => ?_)
    · refine b_run [(32, .aload_n 0, 0, 0, .null)] (pc' := 33) (ls' := [some (.ref 1029)]) (st' := [.ref 1029]) (by decide +kernel) rfl ?_
      refine b_getC (b := 1001) (q := 9) (ci := 7) (k := 0) (w := .null) (by decide +kernel) (by decide +kernel) ?_
      refine b_run [(36, .aload_n 0, 0, 0, .null)] (pc' := 37) (ls' := [some (.ref 1029)]) (st' := [.ref 1029, .ref 1001]) (by decide +kernel) rfl ?_
      refine b_gI (q := 19) (ci := 7) (k := 2) (w := .null) (by decide +kernel) (by decide +kernel) (fun c7 => ?_)
      refine b_run [(40, .ldc 81, 0, 11, .ref 12)] (pc' := 42) (ls' := [some (.ref 1029)]) (st' := [.ref 12, .int c7, .ref 1001]) (by decide +kernel) rfl ?_
      refine b_callI 94 3 [.ref 1001, .int c7, .ref 12] (rest := []) (by decide +kernel) rfl rfl rfl (go_O rfl (by decide +kernel) (by decide +kernel : isO 1001 5 = true)) rfl (s94 hv F 1001 c7 12 σ5 (by decide +kernel : isO 1001 5 = true) (by decide +kernel : isS 12 = true)) (by decide) (fun c9 σ8 => ?_)
      refine b_izT (c := .eq) (o := 13) (t := 58) (y := 0) (w := .null) (by decide +kernel) cmp_eq (fun _ => ?_) (fun _ => ?_)
      · refine b_run [(58, .aload_n 0, 0, 0, .null)] (pc' := 59) (ls' := [some (.ref 1029)]) (st' := [.ref 1029]) (by decide +kernel) rfl ?_
        refine b_getC (b := 1001) (q := 9) (ci := 7) (k := 0) (w := .null) (by decide +kernel) (by decide +kernel) ?_
        refine b_run [(62, .aload_n 0, 0, 0, .null)] (pc' := 63) (ls' := [some (.ref 1029)]) (st' := [.ref 1029, .ref 1001]) (by decide +kernel) rfl ?_
        refine b_gI (q := 19) (ci := 7) (k := 2) (w := .null) (by decide +kernel) (by decide +kernel) (fun c10 => ?_)
        refine b_run [(66, .ldc 90, 0, 13, .ref 14)] (pc' := 68) (ls' := [some (.ref 1029)]) (st' := [.ref 14, .int c10, .ref 1001]) (by decide +kernel) rfl ?_
        refine b_callI 94 3 [.ref 1001, .int c10, .ref 14] (rest := []) (by decide +kernel) rfl rfl rfl (go_O rfl (by decide +kernel) (by decide +kernel : isO 1001 5 = true)) rfl (s94 hv F 1001 c10 14 σ8 (by decide +kernel : isO 1001 5 = true) (by decide +kernel : isS 14 = true)) (by decide) (fun c12 σ11 => ?_)
        exact b_guard (fun hz => b_ret (i := (.ireturn, 0, 0, .null)) (by decide +kernel) rfl rfl (fit_Z hz))
      · exact b_thr (i := (.new 83, 13, 1, .null)) (by decide +kernel) rfl rfl rfl
    · exact b_thr (i := (.new 83, 13, 1, .null)) (by decide +kernel) rfl rfl rfl
  · exact b_thr (i := (.new 83, 13, 1, .null)) (by decide +kernel) rfl rfl rfl
def f93_43 (F : Nat) (k16 : Nat → Int32 → Int32 → St → Rs) (y0 : Nat) (y2 : Int32) (y3 : Int32) (σ : St) : Rs := k16 y0 y2 (y3 + 1) σ
theorem s93_43 {sc : aSc} (hv : vOk sc) (F : Nat) (k16 : Nat → Int32 → Int32 → St → Rs) (hk16 : ∀ y0 y2 y3 σ, isO y0 5 = true → bEx sc 0 93 16 [some (.ref y0), none, some (.int y2), some (.int y3)] [] σ (k16 y0 y2 y3 σ)) (y0 : Nat) (y2 : Int32) (y3 : Int32) (σ : St) (hy0 : isO y0 5 = true) : bEx sc 0 93 43 [some (.ref y0), none, some (.int y2), some (.int y3)] [] σ (f93_43 F k16 y0 y2 y3 σ) := by
  unfold f93_43
  refine b_run [(43, .iinc 3 1, 0, 0, .null), (46, .goto (-30), 16, 0, .null)] (pc' := 16) (ls' := [some (.ref y0), none, some (.int y2), some (.int (y3 + 1))]) (st' := []) (by decide +kernel) rfl ?_
  exact b_wk (wS (wN (wS (wS w0)))) (hk16 y0 y2 (y3 + 1) σ hy0)
def f93_16 (F : Nat) : Nat → Nat → Int32 → Int32 → St → Rs
  | 0, _, _, _, _ => none
  | n + 1, y0, y2, y3, σ => if y3 < y2 then 
    if inB y3 (laN ((rfF y0 0))) then lt (σ.1 (rfF y0 0) y3.toNatClampNeg) fun c2 => 
    if c2 = 32 then f93_43 F (f93_16 F n) y0 y2 y3 σ
    else if inB y3 (laN ((rfF y0 0))) then lt (σ.1 (rfF y0 0) y3.toNatClampNeg) fun c3 => 
    if c3 = 10 then f93_43 F (f93_16 F n) y0 y2 y3 σ
    else oI y3 σ else none else none
    else oI y3 σ
theorem s93_16 {sc : aSc} (hv : vOk sc) (F : Nat) : ∀ (n : Nat) (y0 : Nat) (y2 : Int32) (y3 : Int32) (σ : St) (_ : isO y0 5 = true), bEx sc 0 93 16 [some (.ref y0), none, some (.int y2), some (.int y3)] [] σ (f93_16 F n y0 y2 y3 σ) := by
  intro n
  induction n with
  | zero => intro y0 y2 y3 σ hy0; exact b_none
  | succ n ih =>
    intro y0 y2 y3 σ hy0
    rw [f93_16.eq_2]
    refine b_run [(16, .iload_n 3, 0, 0, .null), (17, .iload_n 2, 0, 0, .null)] (pc' := 18) (ls' := [some (.ref y0), none, some (.int y2), some (.int y3)]) (st' := [.int y2, .int y3]) (by decide +kernel) rfl ?_
    refine b_icF (c := .ge) (o := 31) (t := 49) (y := 0) (w := .null) (by decide +kernel) cmp_ge (fun _ => ?_) (fun _ => ?_)
    · refine b_run [(21, .aload_n 0, 0, 0, .null)] (pc' := 22) (ls' := [some (.ref y0), none, some (.int y2), some (.int y3)]) (st' := [.ref y0]) (by decide +kernel) rfl ?_
      refine b_getC (q := 9) (ci := 5) (k := 0) (w := .null) (by decide +kernel) (fk_C5_0 hy0) ?_
      refine b_run [(25, .iload_n 3, 0, 0, .null)] (pc' := 26) (ls' := [some (.ref y0), none, some (.int y2), some (.int y3)]) (st' := [.int y3, .ref ((rfF y0 0))]) (by decide +kernel) rfl ?_
      refine b_guard (fun hb => ?_)
      refine b_aC (ci := 0) (y := 0) (w := .null) (by decide +kernel) (fk_A5_0 hy0) hb (fun c2 => ?_)
      refine b_run [(27, .bipush 32, 0, 0, .null)] (pc' := 29) (ls' := [some (.ref y0), none, some (.int y2), some (.int y3)]) (st' := [.int 32, .int c2]) (by decide +kernel) rfl ?_
      refine b_icT (c := .eq) (o := 14) (t := 43) (y := 0) (w := .null) (by decide +kernel) cmp_eq (fun _ => ?_) (fun _ => ?_)
      · exact b_wk (wS (wN (wS (wS w0)))) (s93_43 hv F (f93_16 F n) ih y0 y2 y3 σ hy0)
      · refine b_run [(32, .aload_n 0, 0, 0, .null)] (pc' := 33) (ls' := [some (.ref y0), none, some (.int y2), some (.int y3)]) (st' := [.ref y0]) (by decide +kernel) rfl ?_
        refine b_getC (q := 9) (ci := 5) (k := 0) (w := .null) (by decide +kernel) (fk_C5_0 hy0) ?_
        refine b_run [(36, .iload_n 3, 0, 0, .null)] (pc' := 37) (ls' := [some (.ref y0), none, some (.int y2), some (.int y3)]) (st' := [.int y3, .ref ((rfF y0 0))]) (by decide +kernel) rfl ?_
        refine b_guard (fun hb => ?_)
        refine b_aC (ci := 0) (y := 0) (w := .null) (by decide +kernel) (fk_A5_0 hy0) hb (fun c3 => ?_)
        refine b_run [(38, .bipush 10, 0, 0, .null)] (pc' := 40) (ls' := [some (.ref y0), none, some (.int y2), some (.int y3)]) (st' := [.int 10, .int c3]) (by decide +kernel) rfl ?_
        refine b_icF (c := .ne) (o := 9) (t := 49) (y := 0) (w := .null) (by decide +kernel) cmp_ne (fun _ => ?_) (fun _ => ?_)
        · exact b_wk (wS (wN (wS (wS w0)))) (s93_43 hv F (f93_16 F n) ih y0 y2 y3 σ hy0)
        · refine b_run [(49, .iload_n 3, 0, 0, .null)] (pc' := 50) (ls' := [some (.ref y0), none, some (.int y2), some (.int y3)]) (st' := [.int y3]) (by decide +kernel) rfl ?_
          exact b_ret (i := (.ireturn, 0, 0, .null)) (by decide +kernel) rfl rfl (fit_I _)
    · refine b_run [(49, .iload_n 3, 0, 0, .null)] (pc' := 50) (ls' := [some (.ref y0), none, some (.int y2), some (.int y3)]) (st' := [.int y3]) (by decide +kernel) rfl ?_
      exact b_ret (i := (.ireturn, 0, 0, .null)) (by decide +kernel) rfl rfl (fit_I _)
/-- TreeStore$Row.behindBlanks(II)I -/
def f93 (F : Nat) (x0 : Nat) (x1 : Int32) (x2 : Int32) (σ : St) : Rs := if x1 < 0 then oI x1 σ
    else lt (σ.1 x0 1) fun c1 => 
    if c1 < x2 then oI x1 σ
    else f93_16 F F x0 x2 x1 σ
theorem s93 {sc : aSc} (hv : vOk sc) (F : Nat) (x0 : Nat) (x1 : Int32) (x2 : Int32) (σ : St) (hx0 : isO x0 5 = true) : bEx sc 0 93 0 [some (.ref x0), some (.int x1), some (.int x2), none] [] σ (f93 F x0 x1 x2 σ) := by
  unfold f93
  refine b_run [(0, .iload_n 1, 0, 0, .null)] (pc' := 1) (ls' := [some (.ref x0), some (.int x1), some (.int x2), none]) (st' := [.int x1]) (by decide +kernel) rfl ?_
  refine b_izT (c := .lt) (o := 11) (t := 12) (y := 0) (w := .null) (by decide +kernel) cmp_lt (fun _ => ?_) (fun _ => ?_)
  · refine b_run [(12, .iload_n 1, 0, 0, .null)] (pc' := 13) (ls' := [some (.ref x0), some (.int x1), some (.int x2), none]) (st' := [.int x1]) (by decide +kernel) rfl ?_
    exact b_ret (i := (.ireturn, 0, 0, .null)) (by decide +kernel) rfl rfl (fit_I _)
  · refine b_run [(4, .iload_n 2, 0, 0, .null), (5, .aload_n 0, 0, 0, .null)] (pc' := 6) (ls' := [some (.ref x0), some (.int x1), some (.int x2), none]) (st' := [.ref x0, .int x2]) (by decide +kernel) rfl ?_
    refine b_gI (q := 15) (ci := 5) (k := 1) (w := .null) (by decide +kernel) (fk_I5_1 hx0) (fun c1 => ?_)
    refine b_icF (c := .le) (o := 5) (t := 14) (y := 0) (w := .null) (by decide +kernel) cmp_le (fun _ => ?_) (fun _ => ?_)
    · refine b_run [(12, .iload_n 1, 0, 0, .null)] (pc' := 13) (ls' := [some (.ref x0), some (.int x1), some (.int x2), none]) (st' := [.int x1]) (by decide +kernel) rfl ?_
      exact b_ret (i := (.ireturn, 0, 0, .null)) (by decide +kernel) rfl rfl (fit_I _)
    · refine b_run [(14, .iload_n 1, 0, 0, .null), (15, .istore_n 3, 0, 0, .null)] (pc' := 16) (ls' := [some (.ref x0), some (.int x1), some (.int x2), some (.int x1)]) (st' := []) (by decide +kernel) rfl ?_
      exact b_wk (wS (wN (wS (wS w0)))) (s93_16 hv F F x0 x2 x1 σ hx0)
def f107_2 (F : Nat) : Nat → Int32 → St → Rs
  | 0, _, _ => none
  | n + 1, y1, σ => if y1 < 120 then 
    lt (σ.1 1029 2) fun c1 => 
    lt (σ.1 1001 1) fun c2 => 
    cI (f93 F 1001 c1 c2 σ) fun c4 σ3 => 
    lt (uI σ3 1029 2 c4) fun σ5 => 
    cI (f108 F σ5) fun c7 σ6 => 
    if c7 = 0 then oV σ6
    else cV (f109 F 1 σ6) fun σ8 => f107_2 F n (y1 + 1) σ8
    else oV σ
theorem s107_2 {sc : aSc} (hv : vOk sc) (F : Nat) : ∀ (n : Nat) (y1 : Int32) (σ : St), bEx sc 6 107 2 [some (.ref 1029), some (.int y1)] [] σ (f107_2 F n y1 σ) := by
  intro n
  induction n with
  | zero => intro y1 σ; exact b_none
  | succ n ih =>
    intro y1 σ
    rw [f107_2.eq_2]
    refine b_run [(2, .iload_n 1, 0, 0, .null), (3, .bipush 120, 0, 0, .null)] (pc' := 5) (ls' := [some (.ref 1029), some (.int y1)]) (st' := [.int 120, .int y1]) (by decide +kernel) rfl ?_
    refine b_icF (c := .ge) (o := 44) (t := 49) (y := 0) (w := .null) (by decide +kernel) cmp_ge (fun _ => ?_) (fun _ => ?_)
    · refine b_run [(8, .aload_n 0, 0, 0, .null), (9, .aload_n 0, 0, 0, .null)] (pc' := 10) (ls' := [some (.ref 1029), some (.int y1)]) (st' := [.ref 1029, .ref 1029]) (by decide +kernel) rfl ?_
      refine b_getC (b := 1001) (q := 9) (ci := 7) (k := 0) (w := .null) (by decide +kernel) (by decide +kernel) ?_
      refine b_run [(13, .aload_n 0, 0, 0, .null)] (pc' := 14) (ls' := [some (.ref 1029), some (.int y1)]) (st' := [.ref 1029, .ref 1001, .ref 1029]) (by decide +kernel) rfl ?_
      refine b_gI (q := 19) (ci := 7) (k := 2) (w := .null) (by decide +kernel) (by decide +kernel) (fun c1 => ?_)
      refine b_run [(17, .aload_n 0, 0, 0, .null)] (pc' := 18) (ls' := [some (.ref 1029), some (.int y1)]) (st' := [.ref 1029, .int c1, .ref 1001, .ref 1029]) (by decide +kernel) rfl ?_
      refine b_getC (b := 1001) (q := 9) (ci := 7) (k := 0) (w := .null) (by decide +kernel) (by decide +kernel) ?_
      refine b_gI (q := 51) (ci := 5) (k := 1) (w := .null) (by decide +kernel) (by decide +kernel) (fun c2 => ?_)
      refine b_callI 93 3 [.ref 1001, .int c1, .int c2] (rest := [.ref 1029]) (by decide +kernel) rfl rfl rfl (go_O rfl (by decide +kernel) (by decide +kernel : isO 1001 5 = true)) rfl (s93 hv F 1001 c1 c2 σ (by decide +kernel : isO 1001 5 = true)) (by decide) (fun c4 σ3 => ?_)
      refine b_pI (q := 19) (ci := 7) (k := 2) (w := .null) (by decide +kernel) (by decide +kernel) (fit_I _) (fun σ5 => ?_)
      refine b_run [(30, .aload_n 0, 0, 0, .null)] (pc' := 31) (ls' := [some (.ref 1029), some (.int y1)]) (st' := [.ref 1029]) (by decide +kernel) rfl ?_
      refine b_callI 108 1 [.ref 1029] (rest := []) (by decide +kernel) rfl rfl rfl (go_O rfl (by decide +kernel) (by decide +kernel : isO 1029 7 = true)) rfl (s108 hv F σ5) (by decide) (fun c7 σ6 => ?_)
      refine b_izF (c := .ne) (o := 4) (t := 38) (y := 0) (w := .null) (by decide +kernel) cmp_ne (fun _ => ?_) (fun _ => ?_)
      · exact b_ret0 (i := (.return_, 0, 0, .null)) (by decide +kernel) rfl rfl
      · refine b_run [(38, .aload_n 0, 0, 0, .null), (39, .iconst 1, 0, 0, .null)] (pc' := 40) (ls' := [some (.ref 1029), some (.int y1)]) (st' := [.int 1, .ref 1029]) (by decide +kernel) rfl ?_
        refine b_callV 109 2 [.ref 1029, .int 1] (rest := []) (by decide +kernel) rfl rfl rfl (go_O rfl (by decide +kernel) (by decide +kernel : isO 1029 7 = true)) rfl (s109 hv F 1 σ6) (by decide) (fun σ8 => ?_)
        refine b_run [(43, .iinc 1 1, 0, 0, .null), (46, .goto (-44), 2, 0, .null)] (pc' := 2) (ls' := [some (.ref 1029), some (.int (y1 + 1))]) (st' := []) (by decide +kernel) rfl ?_
        exact b_wk (wS (wS w0)) (ih (y1 + 1) σ8)
    · exact b_ret0 (i := (.return_, 0, 0, .null)) (by decide +kernel) rfl rfl
/-- TreeStore$TextReader.readOutside()V -/
def f107 (F : Nat) (σ : St) : Rs := f107_2 F F 0 σ
theorem s107 {sc : aSc} (hv : vOk sc) (F : Nat) (σ : St) : bEx sc 6 107 0 [some (.ref 1029), none] [] σ (f107 F σ) := by
  unfold f107
  refine b_run [(0, .iconst 0, 0, 0, .null), (1, .istore_n 1, 0, 0, .null)] (pc' := 2) (ls' := [some (.ref 1029), some (.int 0)]) (st' := []) (by decide +kernel) rfl ?_
  exact b_wk (wS (wS w0)) (s107_2 hv F F 0 σ)
def f22_12 (F : Nat) (y0 : Int32) (σ : St) : Rs := if y0 < 65 then oI 0 σ
    else if 90 < y0 then oI 0 σ
    else oI 1 σ
theorem s22_12 {sc : aSc} (hv : vOk sc) (F : Nat) (y0 : Int32) (σ : St) : bEx sc 0 22 12 [some (.int y0)] [] σ (f22_12 F y0 σ) := by
  unfold f22_12
  refine b_run [(12, .iload_n 0, 0, 0, .null), (13, .bipush 65, 0, 0, .null)] (pc' := 15) (ls' := [some (.int y0)]) (st' := [.int 65, .int y0]) (by decide +kernel) rfl ?_
  refine b_icT (c := .lt) (o := 13) (t := 28) (y := 0) (w := .null) (by decide +kernel) cmp_lt (fun _ => ?_) (fun _ => ?_)
  · refine b_run [(28, .iconst 0, 0, 0, .null)] (pc' := 29) (ls' := [some (.int y0)]) (st' := [.int 0]) (by decide +kernel) rfl ?_
    exact b_ret (i := (.ireturn, 0, 0, .null)) (by decide +kernel) rfl rfl (by decide +kernel)
  · refine b_run [(18, .iload_n 0, 0, 0, .null), (19, .bipush 90, 0, 0, .null)] (pc' := 21) (ls' := [some (.int y0)]) (st' := [.int 90, .int y0]) (by decide +kernel) rfl ?_
    refine b_icT (c := .gt) (o := 7) (t := 28) (y := 0) (w := .null) (by decide +kernel) cmp_gt (fun _ => ?_) (fun _ => ?_)
    · refine b_run [(28, .iconst 0, 0, 0, .null)] (pc' := 29) (ls' := [some (.int y0)]) (st' := [.int 0]) (by decide +kernel) rfl ?_
      exact b_ret (i := (.ireturn, 0, 0, .null)) (by decide +kernel) rfl rfl (by decide +kernel)
    · refine b_run [(24, .iconst 1, 0, 0, .null), (25, .goto 4, 29, 0, .null)] (pc' := 29) (ls' := [some (.int y0)]) (st' := [.int 1]) (by decide +kernel) rfl ?_
      exact b_ret (i := (.ireturn, 0, 0, .null)) (by decide +kernel) rfl rfl (by decide +kernel)
/-- TreeStore.isLetter(I)Z -/
def f22 (F : Nat) (x0 : Int32) (σ : St) : Rs := if x0 < 97 then f22_12 F x0 σ
    else if 122 < x0 then f22_12 F x0 σ
    else oI 1 σ
theorem s22 {sc : aSc} (hv : vOk sc) (F : Nat) (x0 : Int32) (σ : St) : bEx sc 0 22 0 [some (.int x0)] [] σ (f22 F x0 σ) := by
  unfold f22
  refine b_run [(0, .iload_n 0, 0, 0, .null), (1, .bipush 97, 0, 0, .null)] (pc' := 3) (ls' := [some (.int x0)]) (st' := [.int 97, .int x0]) (by decide +kernel) rfl ?_
  refine b_icT (c := .lt) (o := 9) (t := 12) (y := 0) (w := .null) (by decide +kernel) cmp_lt (fun _ => ?_) (fun _ => ?_)
  · exact b_wk (wS w0) (s22_12 hv F x0 σ)
  · refine b_run [(6, .iload_n 0, 0, 0, .null), (7, .bipush 122, 0, 0, .null)] (pc' := 9) (ls' := [some (.int x0)]) (st' := [.int 122, .int x0]) (by decide +kernel) rfl ?_
    refine b_icF (c := .le) (o := 15) (t := 24) (y := 0) (w := .null) (by decide +kernel) cmp_le (fun _ => ?_) (fun _ => ?_)
    · exact b_wk (wS w0) (s22_12 hv F x0 σ)
    · refine b_run [(24, .iconst 1, 0, 0, .null), (25, .goto 4, 29, 0, .null)] (pc' := 29) (ls' := [some (.int x0)]) (st' := [.int 1]) (by decide +kernel) rfl ?_
      exact b_ret (i := (.ireturn, 0, 0, .null)) (by decide +kernel) rfl rfl (by decide +kernel)
/-- TreeStore.isDigit(I)Z -/
def f23 (F : Nat) (x0 : Int32) (σ : St) : Rs := if x0 < 48 then oI 0 σ
    else if 57 < x0 then oI 0 σ
    else oI 1 σ
theorem s23 {sc : aSc} (hv : vOk sc) (F : Nat) (x0 : Int32) (σ : St) : bEx sc 0 23 0 [some (.int x0)] [] σ (f23 F x0 σ) := by
  unfold f23
  refine b_run [(0, .iload_n 0, 0, 0, .null), (1, .bipush 48, 0, 0, .null)] (pc' := 3) (ls' := [some (.int x0)]) (st' := [.int 48, .int x0]) (by decide +kernel) rfl ?_
  refine b_icT (c := .lt) (o := 13) (t := 16) (y := 0) (w := .null) (by decide +kernel) cmp_lt (fun _ => ?_) (fun _ => ?_)
  · refine b_run [(16, .iconst 0, 0, 0, .null)] (pc' := 17) (ls' := [some (.int x0)]) (st' := [.int 0]) (by decide +kernel) rfl ?_
    exact b_ret (i := (.ireturn, 0, 0, .null)) (by decide +kernel) rfl rfl (by decide +kernel)
  · refine b_run [(6, .iload_n 0, 0, 0, .null), (7, .bipush 57, 0, 0, .null)] (pc' := 9) (ls' := [some (.int x0)]) (st' := [.int 57, .int x0]) (by decide +kernel) rfl ?_
    refine b_icT (c := .gt) (o := 7) (t := 16) (y := 0) (w := .null) (by decide +kernel) cmp_gt (fun _ => ?_) (fun _ => ?_)
    · refine b_run [(16, .iconst 0, 0, 0, .null)] (pc' := 17) (ls' := [some (.int x0)]) (st' := [.int 0]) (by decide +kernel) rfl ?_
      exact b_ret (i := (.ireturn, 0, 0, .null)) (by decide +kernel) rfl rfl (by decide +kernel)
    · refine b_run [(12, .iconst 1, 0, 0, .null), (13, .goto 4, 17, 0, .null)] (pc' := 17) (ls' := [some (.int x0)]) (st' := [.int 1]) (by decide +kernel) rfl ?_
      exact b_ret (i := (.ireturn, 0, 0, .null)) (by decide +kernel) rfl rfl (by decide +kernel)
def f96_62 (F : Nat) (k17 : Nat → Int32 → Int32 → St → Rs) (y0 : Nat) (y1 : Int32) (y2 : Int32) (σ : St) : Rs := k17 y0 y1 (y2 + 1) σ
theorem s96_62 {sc : aSc} (hv : vOk sc) (F : Nat) (k17 : Nat → Int32 → Int32 → St → Rs) (hk17 : ∀ y0 y1 y2 σ, isO y0 5 = true → bEx sc 1 96 17 [some (.ref y0), some (.int y1), some (.int y2), none] [] σ (k17 y0 y1 y2 σ)) (y0 : Nat) (y1 : Int32) (y2 : Int32) (σ : St) (hy0 : isO y0 5 = true) : bEx sc 1 96 62 [some (.ref y0), some (.int y1), some (.int y2), none] [] σ (f96_62 F k17 y0 y1 y2 σ) := by
  unfold f96_62
  refine b_run [(62, .iinc 2 1, 0, 0, .null), (65, .goto (-48), 17, 0, .null)] (pc' := 17) (ls' := [some (.ref y0), some (.int y1), some (.int (y2 + 1)), none]) (st' := []) (by decide +kernel) rfl ?_
  exact b_wk (wS (wS (wS (wN w0)))) (hk17 y0 y1 (y2 + 1) σ hy0)
def f96_17 (F : Nat) : Nat → Nat → Int32 → Int32 → St → Rs
  | 0, _, _, _, _ => none
  | n + 1, y0, y1, y2, σ => lt (σ.1 y0 1) fun c5 => 
    if y2 < c5 then 
    if inB y2 (laN ((rfF y0 0))) then lt (σ.1 (rfF y0 0) y2.toNatClampNeg) fun c6 => 
    cI (f22 F c6 σ) fun c8 σ7 => 
    if c8 = 0 then 
    cI (f23 F c6 σ7) fun c10 σ9 => 
    if c10 = 0 then 
    if c6 = 45 then f96_62 F (f96_17 F n) y0 y1 y2 σ9
    else if c6 = 95 then f96_62 F (f96_17 F n) y0 y1 y2 σ9
    else oI (y2 - y1) σ9
    else f96_62 F (f96_17 F n) y0 y1 y2 σ9
    else f96_62 F (f96_17 F n) y0 y1 y2 σ7 else none
    else lt (σ.1 y0 1) fun c11 => oI (c11 - y1) σ
theorem s96_17 {sc : aSc} (hv : vOk sc) (F : Nat) : ∀ (n : Nat) (y0 : Nat) (y1 : Int32) (y2 : Int32) (σ : St) (_ : isO y0 5 = true), bEx sc 1 96 17 [some (.ref y0), some (.int y1), some (.int y2), none] [] σ (f96_17 F n y0 y1 y2 σ) := by
  intro n
  induction n with
  | zero => intro y0 y1 y2 σ hy0; exact b_none
  | succ n ih =>
    intro y0 y1 y2 σ hy0
    rw [f96_17.eq_2]
    refine b_run [(17, .iload_n 2, 0, 0, .null), (18, .aload_n 0, 0, 0, .null)] (pc' := 19) (ls' := [some (.ref y0), some (.int y1), some (.int y2), none]) (st' := [.ref y0, .int y2]) (by decide +kernel) rfl ?_
    refine b_gI (q := 15) (ci := 5) (k := 1) (w := .null) (by decide +kernel) (fk_I5_1 hy0) (fun c5 => ?_)
    refine b_icF (c := .ge) (o := 46) (t := 68) (y := 0) (w := .null) (by decide +kernel) cmp_ge (fun _ => ?_) (fun _ => ?_)
    · refine b_run [(25, .aload_n 0, 0, 0, .null)] (pc' := 26) (ls' := [some (.ref y0), some (.int y1), some (.int y2), none]) (st' := [.ref y0]) (by decide +kernel) rfl ?_
      refine b_getC (q := 9) (ci := 5) (k := 0) (w := .null) (by decide +kernel) (fk_C5_0 hy0) ?_
      refine b_run [(29, .iload_n 2, 0, 0, .null)] (pc' := 30) (ls' := [some (.ref y0), some (.int y1), some (.int y2), none]) (st' := [.int y2, .ref ((rfF y0 0))]) (by decide +kernel) rfl ?_
      refine b_guard (fun hb => ?_)
      refine b_aC (ci := 0) (y := 0) (w := .null) (by decide +kernel) (fk_A5_0 hy0) hb (fun c6 => ?_)
      refine b_run [(31, .istore_n 3, 0, 0, .null), (32, .iload_n 3, 0, 0, .null)] (pc' := 33) (ls' := [some (.ref y0), some (.int y1), some (.int y2), some (.int c6)]) (st' := [.int c6]) (by decide +kernel) rfl ?_
      refine b_callI 22 1 [.int c6] (rest := []) (by decide +kernel) rfl rfl rfl (go_S rfl (by decide +kernel)) rfl (s22 hv F c6 σ) (by decide) (fun c8 σ7 => ?_)
      refine b_izF (c := .ne) (o := 26) (t := 62) (y := 0) (w := .null) (by decide +kernel) cmp_ne (fun _ => ?_) (fun _ => ?_)
      · refine b_run [(39, .iload_n 3, 0, 0, .null)] (pc' := 40) (ls' := [some (.ref y0), some (.int y1), some (.int y2), some (.int c6)]) (st' := [.int c6]) (by decide +kernel) rfl ?_
        refine b_callI 23 1 [.int c6] (rest := []) (by decide +kernel) rfl rfl rfl (go_S rfl (by decide +kernel)) rfl (s23 hv F c6 σ7) (by decide) (fun c10 σ9 => ?_)
        refine b_izF (c := .ne) (o := 19) (t := 62) (y := 0) (w := .null) (by decide +kernel) cmp_ne (fun _ => ?_) (fun _ => ?_)
        · refine b_run [(46, .iload_n 3, 0, 0, .null), (47, .bipush 45, 0, 0, .null)] (pc' := 49) (ls' := [some (.ref y0), some (.int y1), some (.int y2), some (.int c6)]) (st' := [.int 45, .int c6]) (by decide +kernel) rfl ?_
          refine b_icT (c := .eq) (o := 13) (t := 62) (y := 0) (w := .null) (by decide +kernel) cmp_eq (fun _ => ?_) (fun _ => ?_)
          · exact b_wk (wS (wS (wS (wN w0)))) (s96_62 hv F (f96_17 F n) ih y0 y1 y2 σ9 hy0)
          · refine b_run [(52, .iload_n 3, 0, 0, .null), (53, .bipush 95, 0, 0, .null)] (pc' := 55) (ls' := [some (.ref y0), some (.int y1), some (.int y2), some (.int c6)]) (st' := [.int 95, .int c6]) (by decide +kernel) rfl ?_
            refine b_icT (c := .eq) (o := 7) (t := 62) (y := 0) (w := .null) (by decide +kernel) cmp_eq (fun _ => ?_) (fun _ => ?_)
            · exact b_wk (wS (wS (wS (wN w0)))) (s96_62 hv F (f96_17 F n) ih y0 y1 y2 σ9 hy0)
            · refine b_run [(58, .iload_n 2, 0, 0, .null), (59, .iload_n 1, 0, 0, .null), (60, .isub, 0, 0, .null)] (pc' := 61) (ls' := [some (.ref y0), some (.int y1), some (.int y2), some (.int c6)]) (st' := [.int (y2 - y1)]) (by decide +kernel) rfl ?_
              exact b_ret (i := (.ireturn, 0, 0, .null)) (by decide +kernel) rfl rfl (fit_I _)
        · exact b_wk (wS (wS (wS (wN w0)))) (s96_62 hv F (f96_17 F n) ih y0 y1 y2 σ9 hy0)
      · exact b_wk (wS (wS (wS (wN w0)))) (s96_62 hv F (f96_17 F n) ih y0 y1 y2 σ7 hy0)
    · refine b_run [(68, .aload_n 0, 0, 0, .null)] (pc' := 69) (ls' := [some (.ref y0), some (.int y1), some (.int y2), none]) (st' := [.ref y0]) (by decide +kernel) rfl ?_
      refine b_gI (q := 15) (ci := 5) (k := 1) (w := .null) (by decide +kernel) (fk_I5_1 hy0) (fun c11 => ?_)
      refine b_run [(72, .iload_n 1, 0, 0, .null), (73, .isub, 0, 0, .null)] (pc' := 74) (ls' := [some (.ref y0), some (.int y1), some (.int y2), none]) (st' := [.int (c11 - y1)]) (by decide +kernel) rfl ?_
      exact b_ret (i := (.ireturn, 0, 0, .null)) (by decide +kernel) rfl rfl (fit_I _)
/-- TreeStore$Row.nameLength(I)I -/
def f96 (F : Nat) (x0 : Nat) (x1 : Int32) (σ : St) : Rs := cI (f92 F x0 x1 σ) fun c2 σ1 => 
    cI (f22 F c2 σ1) fun c4 σ3 => 
    if c4 = 0 then oI 0 σ3
    else f96_17 F F x0 x1 (x1 + 1) σ3
theorem s96 {sc : aSc} (hv : vOk sc) (F : Nat) (x0 : Nat) (x1 : Int32) (σ : St) (hx0 : isO x0 5 = true) : bEx sc 1 96 0 [some (.ref x0), some (.int x1), none, none] [] σ (f96 F x0 x1 σ) := by
  unfold f96
  refine b_run [(0, .aload_n 0, 0, 0, .null), (1, .iload_n 1, 0, 0, .null)] (pc' := 2) (ls' := [some (.ref x0), some (.int x1), none, none]) (st' := [.int x1, .ref x0]) (by decide +kernel) rfl ?_
  refine b_callI 92 2 [.ref x0, .int x1] (rest := []) (by decide +kernel) rfl rfl rfl (go_O rfl (by decide +kernel) hx0) rfl (s92 hv F x0 x1 σ hx0) (by decide) (fun c2 σ1 => ?_)
  refine b_callI 22 1 [.int c2] (rest := []) (by decide +kernel) rfl rfl rfl (go_S rfl (by decide +kernel)) rfl (s22 hv F c2 σ1) (by decide) (fun c4 σ3 => ?_)
  refine b_izF (c := .ne) (o := 5) (t := 13) (y := 0) (w := .null) (by decide +kernel) cmp_ne (fun _ => ?_) (fun _ => ?_)
  · refine b_run [(11, .iconst 0, 0, 0, .null)] (pc' := 12) (ls' := [some (.ref x0), some (.int x1), none, none]) (st' := [.int 0]) (by decide +kernel) rfl ?_
    exact b_ret (i := (.ireturn, 0, 0, .null)) (by decide +kernel) rfl rfl (fit_I _)
  · refine b_run [(13, .iload_n 1, 0, 0, .null), (14, .iconst 1, 0, 0, .null), (15, .iadd, 0, 0, .null), (16, .istore_n 2, 0, 0, .null)] (pc' := 17) (ls' := [some (.ref x0), some (.int x1), some (.int (x1 + 1)), none]) (st' := []) (by decide +kernel) rfl ?_
    exact b_wk (wS (wS (wS (wN w0)))) (s96_17 hv F F x0 x1 (x1 + 1) σ3 hx0)
/-- TreeStore$TextReader.readName()I -/
def f113 (F : Nat) (σ : St) : Rs := lt (σ.1 1029 2) fun c1 => 
    cI (f96 F 1001 c1 σ) fun c3 σ2 => 
    if c3 = 0 then oT 10 σ2
    else lt (σ2.1 1029 2) fun c4 => lt (uI σ2 1029 2 (c4 + c3)) fun σ5 => oI c3 σ5
theorem s113 {sc : aSc} (hv : vOk sc) (F : Nat) (σ : St) : bEx sc 2 113 0 [some (.ref 1029), none] [] σ (f113 F σ) := by
  unfold f113
  refine b_run [(0, .aload_n 0, 0, 0, .null)] (pc' := 1) (ls' := [some (.ref 1029), none]) (st' := [.ref 1029]) (by decide +kernel) rfl ?_
  refine b_getC (b := 1001) (q := 9) (ci := 7) (k := 0) (w := .null) (by decide +kernel) (by decide +kernel) ?_
  refine b_run [(4, .aload_n 0, 0, 0, .null)] (pc' := 5) (ls' := [some (.ref 1029), none]) (st' := [.ref 1029, .ref 1001]) (by decide +kernel) rfl ?_
  refine b_gI (q := 19) (ci := 7) (k := 2) (w := .null) (by decide +kernel) (by decide +kernel) (fun c1 => ?_)
  refine b_callI 96 2 [.ref 1001, .int c1] (rest := []) (by decide +kernel) rfl rfl rfl (go_O rfl (by decide +kernel) (by decide +kernel : isO 1001 5 = true)) rfl (s96 hv F 1001 c1 σ (by decide +kernel : isO 1001 5 = true)) (by decide) (fun c3 σ2 => ?_)
  refine b_run [(11, .istore_n 1, 0, 0, .null), (12, .iload_n 1, 0, 0, .null)] (pc' := 13) (ls' := [some (.ref 1029), some (.int c3)]) (st' := [.int c3]) (by decide +kernel) rfl ?_
  refine b_izF (c := .ne) (o := 13) (t := 26) (y := 0) (w := .null) (by decide +kernel) cmp_ne (fun _ => ?_) (fun _ => ?_)
  · exact b_thr (i := (.new 127, 10, 1, .null)) (by decide +kernel) rfl rfl rfl
  · refine b_run [(26, .aload_n 0, 0, 0, .null), (27, .dup, 0, 0, .null)] (pc' := 28) (ls' := [some (.ref 1029), some (.int c3)]) (st' := [.ref 1029, .ref 1029]) (by decide +kernel) rfl ?_
    refine b_gI (q := 19) (ci := 7) (k := 2) (w := .null) (by decide +kernel) (by decide +kernel) (fun c4 => ?_)
    refine b_run [(31, .iload_n 1, 0, 0, .null), (32, .iadd, 0, 0, .null)] (pc' := 33) (ls' := [some (.ref 1029), some (.int c3)]) (st' := [.int (c4 + c3), .ref 1029]) (by decide +kernel) rfl ?_
    refine b_pI (q := 19) (ci := 7) (k := 2) (w := .null) (by decide +kernel) (by decide +kernel) (fit_I _) (fun σ5 => ?_)
    refine b_run [(36, .iload_n 1, 0, 0, .null)] (pc' := 37) (ls' := [some (.ref 1029), some (.int c3)]) (st' := [.int c3]) (by decide +kernel) rfl ?_
    exact b_ret (i := (.ireturn, 0, 0, .null)) (by decide +kernel) rfl rfl (fit_I _)
def f97_56 (F : Nat) : Nat → Nat → Int32 → Int32 → Nat → Int32 → Int32 → St → Rs
  | 0, _, _, _, _, _, _, _ => none
  | n + 1, y0, y1, y2, y3, y4, y6, σ => if y6 < y2 then 
    if inB (y1 + y6) (laN ((rfF y0 0))) then lt (σ.1 (rfF y0 0) (y1 + y6).toNatClampNeg) fun c3 => 
    if inB (y4 + y6) (laN ((rfF y3 0))) then lt (σ.1 (rfF y3 0) (y4 + y6).toNatClampNeg) fun c4 => 
    if c3 = c4 then f97_56 F n y0 y1 y2 y3 y4 (y6 + 1) σ
    else oI 0 σ else none else none
    else oI 1 σ
theorem s97_56 {sc : aSc} (hv : vOk sc) (F : Nat) : ∀ (n : Nat) (y0 : Nat) (y1 : Int32) (y2 : Int32) (y3 : Nat) (y4 : Int32) (y6 : Int32) (σ : St) (_ : isO y0 5 = true) (_ : isO y3 5 = true), bEx sc 0 97 56 [some (.ref y0), some (.int y1), some (.int y2), some (.ref y3), some (.int y4), none, some (.int y6)] [] σ (f97_56 F n y0 y1 y2 y3 y4 y6 σ) := by
  intro n
  induction n with
  | zero => intro y0 y1 y2 y3 y4 y6 σ hy0 hy3; exact b_none
  | succ n ih =>
    intro y0 y1 y2 y3 y4 y6 σ hy0 hy3
    rw [f97_56.eq_2]
    refine b_run [(56, .iload 6, 0, 0, .null), (58, .iload_n 2, 0, 0, .null)] (pc' := 59) (ls' := [some (.ref y0), some (.int y1), some (.int y2), some (.ref y3), some (.int y4), none, some (.int y6)]) (st' := [.int y2, .int y6]) (by decide +kernel) rfl ?_
    refine b_icF (c := .ge) (o := 33) (t := 92) (y := 0) (w := .null) (by decide +kernel) cmp_ge (fun _ => ?_) (fun _ => ?_)
    · refine b_run [(62, .aload_n 0, 0, 0, .null)] (pc' := 63) (ls' := [some (.ref y0), some (.int y1), some (.int y2), some (.ref y3), some (.int y4), none, some (.int y6)]) (st' := [.ref y0]) (by decide +kernel) rfl ?_
      refine b_getC (q := 9) (ci := 5) (k := 0) (w := .null) (by decide +kernel) (fk_C5_0 hy0) ?_
      refine b_run [(66, .iload_n 1, 0, 0, .null), (67, .iload 6, 0, 0, .null), (69, .iadd, 0, 0, .null)] (pc' := 70) (ls' := [some (.ref y0), some (.int y1), some (.int y2), some (.ref y3), some (.int y4), none, some (.int y6)]) (st' := [.int (y1 + y6), .ref ((rfF y0 0))]) (by decide +kernel) rfl ?_
      refine b_guard (fun hb => ?_)
      refine b_aC (ci := 0) (y := 0) (w := .null) (by decide +kernel) (fk_A5_0 hy0) hb (fun c3 => ?_)
      refine b_run [(71, .aload_n 3, 0, 0, .null)] (pc' := 72) (ls' := [some (.ref y0), some (.int y1), some (.int y2), some (.ref y3), some (.int y4), none, some (.int y6)]) (st' := [.ref y3, .int c3]) (by decide +kernel) rfl ?_
      refine b_getC (q := 9) (ci := 5) (k := 0) (w := .null) (by decide +kernel) (fk_C5_0 hy3) ?_
      refine b_run [(75, .iload 4, 0, 0, .null), (77, .iload 6, 0, 0, .null), (79, .iadd, 0, 0, .null)] (pc' := 80) (ls' := [some (.ref y0), some (.int y1), some (.int y2), some (.ref y3), some (.int y4), none, some (.int y6)]) (st' := [.int (y4 + y6), .ref ((rfF y3 0)), .int c3]) (by decide +kernel) rfl ?_
      refine b_guard (fun hb => ?_)
      refine b_aC (ci := 0) (y := 0) (w := .null) (by decide +kernel) (fk_A5_0 hy3) hb (fun c4 => ?_)
      refine b_icT (c := .eq) (o := 5) (t := 86) (y := 0) (w := .null) (by decide +kernel) cmp_eq (fun _ => ?_) (fun _ => ?_)
      · refine b_run [(86, .iinc 6 1, 0, 0, .null), (89, .goto (-33), 56, 0, .null)] (pc' := 56) (ls' := [some (.ref y0), some (.int y1), some (.int y2), some (.ref y3), some (.int y4), none, some (.int (y6 + 1))]) (st' := []) (by decide +kernel) rfl ?_
        exact b_wk (wS (wS (wS (wS (wS (wN (wS w0))))))) (ih y0 y1 y2 y3 y4 (y6 + 1) σ hy0 hy3)
      · refine b_run [(84, .iconst 0, 0, 0, .null)] (pc' := 85) (ls' := [some (.ref y0), some (.int y1), some (.int y2), some (.ref y3), some (.int y4), none, some (.int y6)]) (st' := [.int 0]) (by decide +kernel) rfl ?_
        exact b_ret (i := (.ireturn, 0, 0, .null)) (by decide +kernel) rfl rfl (by decide +kernel)
    · refine b_run [(92, .iconst 1, 0, 0, .null)] (pc' := 93) (ls' := [some (.ref y0), some (.int y1), some (.int y2), some (.ref y3), some (.int y4), none, some (.int y6)]) (st' := [.int 1]) (by decide +kernel) rfl ?_
      exact b_ret (i := (.ireturn, 0, 0, .null)) (by decide +kernel) rfl rfl (by decide +kernel)
def f97_21 (F : Nat) (y0 : Nat) (y1 : Int32) (y2 : Int32) (y3 : Nat) (y4 : Int32) (σ : St) : Rs := if y1 < 0 then oI 0 σ
    else lt (σ.1 y0 1) fun c1 => 
    if c1 < y1 + y2 then oI 0 σ
    else if y4 < 0 then oI 0 σ
    else lt (σ.1 y3 1) fun c2 => 
    if c2 < y4 + y2 then oI 0 σ
    else f97_56 F F y0 y1 y2 y3 y4 0 σ
theorem s97_21 {sc : aSc} (hv : vOk sc) (F : Nat) (y0 : Nat) (y1 : Int32) (y2 : Int32) (y3 : Nat) (y4 : Int32) (σ : St) (hy0 : isO y0 5 = true) (hy3 : isO y3 5 = true) : bEx sc 0 97 21 [some (.ref y0), some (.int y1), some (.int y2), some (.ref y3), some (.int y4), none, none] [] σ (f97_21 F y0 y1 y2 y3 y4 σ) := by
  unfold f97_21
  refine b_run [(21, .iload_n 1, 0, 0, .null)] (pc' := 22) (ls' := [some (.ref y0), some (.int y1), some (.int y2), some (.ref y3), some (.int y4), none, none]) (st' := [.int y1]) (by decide +kernel) rfl ?_
  refine b_izT (c := .lt) (o := 29) (t := 51) (y := 0) (w := .null) (by decide +kernel) cmp_lt (fun _ => ?_) (fun _ => ?_)
  · refine b_run [(51, .iconst 0, 0, 0, .null)] (pc' := 52) (ls' := [some (.ref y0), some (.int y1), some (.int y2), some (.ref y3), some (.int y4), none, none]) (st' := [.int 0]) (by decide +kernel) rfl ?_
    exact b_ret (i := (.ireturn, 0, 0, .null)) (by decide +kernel) rfl rfl (by decide +kernel)
  · refine b_run [(25, .iload_n 1, 0, 0, .null), (26, .iload_n 2, 0, 0, .null), (27, .iadd, 0, 0, .null), (28, .aload_n 0, 0, 0, .null)] (pc' := 29) (ls' := [some (.ref y0), some (.int y1), some (.int y2), some (.ref y3), some (.int y4), none, none]) (st' := [.ref y0, .int (y1 + y2)]) (by decide +kernel) rfl ?_
    refine b_gI (q := 15) (ci := 5) (k := 1) (w := .null) (by decide +kernel) (fk_I5_1 hy0) (fun c1 => ?_)
    refine b_icT (c := .gt) (o := 19) (t := 51) (y := 0) (w := .null) (by decide +kernel) cmp_gt (fun _ => ?_) (fun _ => ?_)
    · refine b_run [(51, .iconst 0, 0, 0, .null)] (pc' := 52) (ls' := [some (.ref y0), some (.int y1), some (.int y2), some (.ref y3), some (.int y4), none, none]) (st' := [.int 0]) (by decide +kernel) rfl ?_
      exact b_ret (i := (.ireturn, 0, 0, .null)) (by decide +kernel) rfl rfl (by decide +kernel)
    · refine b_run [(35, .iload 4, 0, 0, .null)] (pc' := 37) (ls' := [some (.ref y0), some (.int y1), some (.int y2), some (.ref y3), some (.int y4), none, none]) (st' := [.int y4]) (by decide +kernel) rfl ?_
      refine b_izT (c := .lt) (o := 14) (t := 51) (y := 0) (w := .null) (by decide +kernel) cmp_lt (fun _ => ?_) (fun _ => ?_)
      · refine b_run [(51, .iconst 0, 0, 0, .null)] (pc' := 52) (ls' := [some (.ref y0), some (.int y1), some (.int y2), some (.ref y3), some (.int y4), none, none]) (st' := [.int 0]) (by decide +kernel) rfl ?_
        exact b_ret (i := (.ireturn, 0, 0, .null)) (by decide +kernel) rfl rfl (by decide +kernel)
      · refine b_run [(40, .iload 4, 0, 0, .null), (42, .iload_n 2, 0, 0, .null), (43, .iadd, 0, 0, .null), (44, .aload_n 3, 0, 0, .null)] (pc' := 45) (ls' := [some (.ref y0), some (.int y1), some (.int y2), some (.ref y3), some (.int y4), none, none]) (st' := [.ref y3, .int (y4 + y2)]) (by decide +kernel) rfl ?_
        refine b_gI (q := 15) (ci := 5) (k := 1) (w := .null) (by decide +kernel) (fk_I5_1 hy3) (fun c2 => ?_)
        refine b_icF (c := .le) (o := 5) (t := 53) (y := 0) (w := .null) (by decide +kernel) cmp_le (fun _ => ?_) (fun _ => ?_)
        · refine b_run [(51, .iconst 0, 0, 0, .null)] (pc' := 52) (ls' := [some (.ref y0), some (.int y1), some (.int y2), some (.ref y3), some (.int y4), none, none]) (st' := [.int 0]) (by decide +kernel) rfl ?_
          exact b_ret (i := (.ireturn, 0, 0, .null)) (by decide +kernel) rfl rfl (by decide +kernel)
        · refine b_run [(53, .iconst 0, 0, 0, .null), (54, .istore 6, 0, 0, .null)] (pc' := 56) (ls' := [some (.ref y0), some (.int y1), some (.int y2), some (.ref y3), some (.int y4), none, some (.int 0)]) (st' := []) (by decide +kernel) rfl ?_
          exact b_wk (wS (wS (wS (wS (wS (wN (wS w0))))))) (s97_56 hv F F y0 y1 y2 y3 y4 0 σ hy0 hy3)
/-- TreeStore$Row.isSame(IILTreeStore$Row;II)Z -/
def f97 (F : Nat) (x0 : Nat) (x1 : Int32) (x2 : Int32) (x3 : Nat) (x4 : Int32) (x5 : Int32) (σ : St) : Rs := if x2 = x5 then 
    if aCp x3 x0 = true then if x3 = x0 then 
    if x4 = x1 then oI 1 σ
    else f97_21 F x0 x1 x2 x3 x4 σ
    else f97_21 F x0 x1 x2 x3 x4 σ else none
    else oI 0 σ
theorem s97 {sc : aSc} (hv : vOk sc) (F : Nat) (x0 : Nat) (x1 : Int32) (x2 : Int32) (x3 : Nat) (x4 : Int32) (x5 : Int32) (σ : St) (hx0 : isO x0 5 = true) (hx3 : isO x3 5 = true) : bEx sc 0 97 0 [some (.ref x0), some (.int x1), some (.int x2), some (.ref x3), some (.int x4), some (.int x5), none] [] σ (f97 F x0 x1 x2 x3 x4 x5 σ) := by
  unfold f97
  refine b_run [(0, .iload_n 2, 0, 0, .null), (1, .iload 5, 0, 0, .null)] (pc' := 3) (ls' := [some (.ref x0), some (.int x1), some (.int x2), some (.ref x3), some (.int x4), some (.int x5), none]) (st' := [.int x5, .int x2]) (by decide +kernel) rfl ?_
  refine b_icT (c := .eq) (o := 5) (t := 8) (y := 0) (w := .null) (by decide +kernel) cmp_eq (fun _ => ?_) (fun _ => ?_)
  · refine b_run [(8, .aload_n 3, 0, 0, .null), (9, .aload_n 0, 0, 0, .null)] (pc' := 10) (ls' := [some (.ref x0), some (.int x1), some (.int x2), some (.ref x3), some (.int x4), some (.int x5), none]) (st' := [.ref x0, .ref x3]) (by decide +kernel) rfl ?_
    refine b_guard (fun hp => ?_)
    refine b_acF (o := 11) (t := 21) (y := 0) (w := .null) (by decide +kernel) hp (fun _ => ?_) (fun _ => ?_)
    · refine b_run [(13, .iload 4, 0, 0, .null), (15, .iload_n 1, 0, 0, .null)] (pc' := 16) (ls' := [some (.ref x0), some (.int x1), some (.int x2), some (.ref x3), some (.int x4), some (.int x5), none]) (st' := [.int x1, .int x4]) (by decide +kernel) rfl ?_
      refine b_icF (c := .ne) (o := 5) (t := 21) (y := 0) (w := .null) (by decide +kernel) cmp_ne (fun _ => ?_) (fun _ => ?_)
      · refine b_run [(19, .iconst 1, 0, 0, .null)] (pc' := 20) (ls' := [some (.ref x0), some (.int x1), some (.int x2), some (.ref x3), some (.int x4), some (.int x5), none]) (st' := [.int 1]) (by decide +kernel) rfl ?_
        exact b_ret (i := (.ireturn, 0, 0, .null)) (by decide +kernel) rfl rfl (by decide +kernel)
      · exact b_wk (wS (wS (wS (wS (wS (wN (wN w0))))))) (s97_21 hv F x0 x1 x2 x3 x4 σ hx0 hx3)
    · exact b_wk (wS (wS (wS (wS (wS (wN (wN w0))))))) (s97_21 hv F x0 x1 x2 x3 x4 σ hx0 hx3)
  · refine b_run [(6, .iconst 0, 0, 0, .null)] (pc' := 7) (ls' := [some (.ref x0), some (.int x1), some (.int x2), some (.ref x3), some (.int x4), some (.int x5), none]) (st' := [.int 0]) (by decide +kernel) rfl ?_
    exact b_ret (i := (.ireturn, 0, 0, .null)) (by decide +kernel) rfl rfl (by decide +kernel)
/-- TreeStore$Tree.isNamed(ILTreeStore$Row;II)Z -/
def f136 (F : Nat) (x0 : Nat) (x1 : Int32) (x2 : Nat) (x3 : Int32) (x4 : Int32) (σ : St) : Rs := if inB x1 31 then lt (σ.1 (rfF x0 7) x1.toNatClampNeg) fun c1 => 
    if inB x1 30 then lt (σ.1 (rfF x0 2) x1.toNatClampNeg) fun c2 => cI (f97 F ((rfF x0 9)) c1 c2 x2 x3 x4 σ) fun c4 σ3 => if c4 = 0 ∨ c4 = 1 then oI c4 σ3 else none else none else none
theorem s136 {sc : aSc} (hv : vOk sc) (F : Nat) (x0 : Nat) (x1 : Int32) (x2 : Nat) (x3 : Int32) (x4 : Int32) (σ : St) (hx0 : isO x0 8 = true) (hx2 : isO x2 5 = true) : bEx sc 1 136 0 [some (.ref x0), some (.int x1), some (.ref x2), some (.int x3), some (.int x4)] [] σ (f136 F x0 x1 x2 x3 x4 σ) := by
  unfold f136
  refine b_run [(0, .aload_n 0, 0, 0, .null)] (pc' := 1) (ls' := [some (.ref x0), some (.int x1), some (.ref x2), some (.int x3), some (.int x4)]) (st' := [.ref x0]) (by decide +kernel) rfl ?_
  refine b_getC (q := 45) (ci := 8) (k := 9) (w := .null) (by decide +kernel) (fk_C8_9 hx0) ?_
  refine b_run [(4, .aload_n 0, 0, 0, .null)] (pc' := 5) (ls' := [some (.ref x0), some (.int x1), some (.ref x2), some (.int x3), some (.int x4)]) (st' := [.ref x0, .ref ((rfF x0 9))]) (by decide +kernel) rfl ?_
  refine b_getC (q := 33) (ci := 8) (k := 7) (w := .null) (by decide +kernel) (fk_C8_7 hx0) ?_
  refine b_run [(8, .iload_n 1, 0, 0, .null)] (pc' := 9) (ls' := [some (.ref x0), some (.int x1), some (.ref x2), some (.int x3), some (.int x4)]) (st' := [.int x1, .ref ((rfF x0 7)), .ref ((rfF x0 9))]) (by decide +kernel) rfl ?_
  refine b_guard (fun hb => ?_)
  refine b_aI (ci := 0) (y := 0) (w := .null) (by decide +kernel) (fk_A8_7 hx0) hb (fun c1 => ?_)
  refine b_run [(10, .aload_n 0, 0, 0, .null)] (pc' := 11) (ls' := [some (.ref x0), some (.int x1), some (.ref x2), some (.int x3), some (.int x4)]) (st' := [.ref x0, .int c1, .ref ((rfF x0 9))]) (by decide +kernel) rfl ?_
  refine b_getC (q := 18) (ci := 8) (k := 2) (w := .null) (by decide +kernel) (fk_C8_2 hx0) ?_
  refine b_run [(14, .iload_n 1, 0, 0, .null)] (pc' := 15) (ls' := [some (.ref x0), some (.int x1), some (.ref x2), some (.int x3), some (.int x4)]) (st' := [.int x1, .ref ((rfF x0 2)), .int c1, .ref ((rfF x0 9))]) (by decide +kernel) rfl ?_
  refine b_guard (fun hb => ?_)
  refine b_aI (ci := 0) (y := 0) (w := .null) (by decide +kernel) (fk_A8_2 hx0) hb (fun c2 => ?_)
  refine b_run [(16, .aload_n 2, 0, 0, .null), (17, .iload_n 3, 0, 0, .null), (18, .iload 4, 0, 0, .null)] (pc' := 20) (ls' := [some (.ref x0), some (.int x1), some (.ref x2), some (.int x3), some (.int x4)]) (st' := [.int x4, .int x3, .ref x2, .int c2, .int c1, .ref ((rfF x0 9))]) (by decide +kernel) rfl ?_
  refine b_callI 97 6 [.ref ((rfF x0 9)), .int c1, .int c2, .ref x2, .int x3, .int x4] (rest := []) (by decide +kernel) rfl rfl rfl (go_O rfl (by decide +kernel) (fk_O8_9 hx0)) rfl (s97 hv F ((rfF x0 9)) c1 c2 x2 x3 x4 σ (fk_O8_9 hx0) hx2) (by decide) (fun c4 σ3 => ?_)
  exact b_guard (fun hz => b_ret (i := (.ireturn, 0, 0, .null)) (by decide +kernel) rfl rfl (fit_Z hz))
def f116_3 (F : Nat) : Nat → Int32 → Int32 → Int32 → St → Rs
  | 0, _, _, _, _ => none
  | n + 1, y2, y3, y4, σ => lt (σ.1 1016 10) fun c1 => 
    if y4 < c1 then 
    cI (f136 F 1016 y4 1001 y2 y3 σ) fun c3 σ2 => 
    if c3 = 0 then f116_3 F n y2 y3 (y4 + 1) σ2
    else oI 1 σ2
    else oI 0 σ
theorem s116_3 {sc : aSc} (hv : vOk sc) (F : Nat) : ∀ (n : Nat) (y2 : Int32) (y3 : Int32) (y4 : Int32) (σ : St), bEx sc 2 116 3 [some (.ref 1029), none, some (.int y2), some (.int y3), some (.int y4)] [] σ (f116_3 F n y2 y3 y4 σ) := by
  intro n
  induction n with
  | zero => intro y2 y3 y4 σ; exact b_none
  | succ n ih =>
    intro y2 y3 y4 σ
    rw [f116_3.eq_2]
    refine b_run [(3, .iload 4, 0, 0, .null), (5, .aload_n 0, 0, 0, .null)] (pc' := 6) (ls' := [some (.ref 1029), none, some (.int y2), some (.int y3), some (.int y4)]) (st' := [.ref 1029, .int y4]) (by decide +kernel) rfl ?_
    refine b_getC (b := 1016) (q := 15) (ci := 7) (k := 1) (w := .null) (by decide +kernel) (by decide +kernel) ?_
    refine b_gI (q := 132) (ci := 8) (k := 10) (w := .null) (by decide +kernel) (by decide +kernel) (fun c1 => ?_)
    refine b_icF (c := .ge) (o := 29) (t := 41) (y := 0) (w := .null) (by decide +kernel) cmp_ge (fun _ => ?_) (fun _ => ?_)
    · refine b_run [(15, .aload_n 0, 0, 0, .null)] (pc' := 16) (ls' := [some (.ref 1029), none, some (.int y2), some (.int y3), some (.int y4)]) (st' := [.ref 1029]) (by decide +kernel) rfl ?_
      refine b_getC (b := 1016) (q := 15) (ci := 7) (k := 1) (w := .null) (by decide +kernel) (by decide +kernel) ?_
      refine b_run [(19, .iload 4, 0, 0, .null), (21, .aload_n 0, 0, 0, .null)] (pc' := 22) (ls' := [some (.ref 1029), none, some (.int y2), some (.int y3), some (.int y4)]) (st' := [.ref 1029, .int y4, .ref 1016]) (by decide +kernel) rfl ?_
      refine b_getC (b := 1001) (q := 9) (ci := 7) (k := 0) (w := .null) (by decide +kernel) (by decide +kernel) ?_
      refine b_run [(25, .iload_n 2, 0, 0, .null), (26, .iload_n 3, 0, 0, .null)] (pc' := 27) (ls' := [some (.ref 1029), none, some (.int y2), some (.int y3), some (.int y4)]) (st' := [.int y3, .int y2, .ref 1001, .int y4, .ref 1016]) (by decide +kernel) rfl ?_
      refine b_callI 136 5 [.ref 1016, .int y4, .ref 1001, .int y2, .int y3] (rest := []) (by decide +kernel) rfl rfl rfl (go_O rfl (by decide +kernel) (by decide +kernel : isO 1016 8 = true)) rfl (s136 hv F 1016 y4 1001 y2 y3 σ (by decide +kernel : isO 1016 8 = true) (by decide +kernel : isO 1001 5 = true)) (by decide) (fun c3 σ2 => ?_)
      refine b_izT (c := .eq) (o := 5) (t := 35) (y := 0) (w := .null) (by decide +kernel) cmp_eq (fun _ => ?_) (fun _ => ?_)
      · refine b_run [(35, .iinc 4 1, 0, 0, .null), (38, .goto (-35), 3, 0, .null)] (pc' := 3) (ls' := [some (.ref 1029), none, some (.int y2), some (.int y3), some (.int (y4 + 1))]) (st' := []) (by decide +kernel) rfl ?_
        exact b_wk (wS (wN (wS (wS (wS w0))))) (ih y2 y3 (y4 + 1) σ2)
      · refine b_run [(33, .iconst 1, 0, 0, .null)] (pc' := 34) (ls' := [some (.ref 1029), none, some (.int y2), some (.int y3), some (.int y4)]) (st' := [.int 1]) (by decide +kernel) rfl ?_
        exact b_ret (i := (.ireturn, 0, 0, .null)) (by decide +kernel) rfl rfl (by decide +kernel)
    · refine b_run [(41, .iconst 0, 0, 0, .null)] (pc' := 42) (ls' := [some (.ref 1029), none, some (.int y2), some (.int y3), some (.int y4)]) (st' := [.int 0]) (by decide +kernel) rfl ?_
      exact b_ret (i := (.ireturn, 0, 0, .null)) (by decide +kernel) rfl rfl (by decide +kernel)
/-- TreeStore$TextReader.isDrafted(III)Z -/
def f116 (F : Nat) (x1 : Int32) (x2 : Int32) (x3 : Int32) (σ : St) : Rs := f116_3 F F x2 x3 x1 σ
theorem s116 {sc : aSc} (hv : vOk sc) (F : Nat) (x1 : Int32) (x2 : Int32) (x3 : Int32) (σ : St) : bEx sc 2 116 0 [some (.ref 1029), some (.int x1), some (.int x2), some (.int x3), none] [] σ (f116 F x1 x2 x3 σ) := by
  unfold f116
  refine b_run [(0, .iload_n 1, 0, 0, .null), (1, .istore 4, 0, 0, .null)] (pc' := 3) (ls' := [some (.ref 1029), some (.int x1), some (.int x2), some (.int x3), some (.int x1)]) (st' := []) (by decide +kernel) rfl ?_
  exact b_wk (wS (wN (wS (wS (wS w0))))) (s116_3 hv F F x2 x3 x1 σ)
/-- TreeStore$TextReader.readCharacter()I -/
def f117 (F : Nat) (σ : St) : Rs := lt (σ.1 1029 2) fun c1 => 
    cI (f92 F 1001 c1 σ) fun c3 σ2 => 
    if c3 = 60 then oT 10 σ2
    else if c3 = 0 then oT 10 σ2
    else if c3 = 38 then 
    lt (σ2.1 1029 2) fun c4 => 
    cI (f94 F 1001 c4 23 σ2) fun c6 σ5 => 
    if c6 = 0 then 
    lt (σ5.1 1029 2) fun c7 => 
    cI (f94 F 1001 c7 24 σ5) fun c9 σ8 => 
    if c9 = 0 then 
    lt (σ8.1 1029 2) fun c10 => 
    cI (f94 F 1001 c10 25 σ8) fun c12 σ11 => 
    if c12 = 0 then 
    lt (σ11.1 1029 2) fun c13 => 
    cI (f94 F 1001 c13 26 σ11) fun c15 σ14 => 
    if c15 = 0 then 
    lt (σ14.1 1029 2) fun c16 => 
    cI (f94 F 1001 c16 27 σ14) fun c18 σ17 => 
    if c18 = 0 then oT 10 σ17
    else lt (σ17.1 1029 2) fun c19 => lt (uI σ17 1029 2 (c19 + 6)) fun σ20 => oI 39 σ20
    else lt (σ14.1 1029 2) fun c21 => lt (uI σ14 1029 2 (c21 + 6)) fun σ22 => oI 34 σ22
    else lt (σ11.1 1029 2) fun c23 => lt (uI σ11 1029 2 (c23 + 5)) fun σ24 => oI 38 σ24
    else lt (σ8.1 1029 2) fun c25 => lt (uI σ8 1029 2 (c25 + 4)) fun σ26 => oI 62 σ26
    else lt (σ5.1 1029 2) fun c27 => lt (uI σ5 1029 2 (c27 + 4)) fun σ28 => oI 60 σ28
    else lt (σ2.1 1029 2) fun c29 => lt (uI σ2 1029 2 (c29 + 1)) fun σ30 => oI c3 σ30
theorem s117 {sc : aSc} (hv : vOk sc) (F : Nat) (σ : St) : bEx sc 5 117 0 [some (.ref 1029), none] [] σ (f117 F σ) := by
  unfold f117
  refine b_run [(0, .aload_n 0, 0, 0, .null)] (pc' := 1) (ls' := [some (.ref 1029), none]) (st' := [.ref 1029]) (by decide +kernel) rfl ?_
  refine b_getC (b := 1001) (q := 9) (ci := 7) (k := 0) (w := .null) (by decide +kernel) (by decide +kernel) ?_
  refine b_run [(4, .aload_n 0, 0, 0, .null)] (pc' := 5) (ls' := [some (.ref 1029), none]) (st' := [.ref 1029, .ref 1001]) (by decide +kernel) rfl ?_
  refine b_gI (q := 19) (ci := 7) (k := 2) (w := .null) (by decide +kernel) (by decide +kernel) (fun c1 => ?_)
  refine b_callI 92 2 [.ref 1001, .int c1] (rest := []) (by decide +kernel) rfl rfl rfl (go_O rfl (by decide +kernel) (by decide +kernel : isO 1001 5 = true)) rfl (s92 hv F 1001 c1 σ (by decide +kernel : isO 1001 5 = true)) (by decide) (fun c3 σ2 => ?_)
  refine b_run [(11, .istore_n 1, 0, 0, .null), (12, .iload_n 1, 0, 0, .null), (13, .bipush 60, 0, 0, .null)] (pc' := 15) (ls' := [some (.ref 1029), some (.int c3)]) (st' := [.int 60, .int c3]) (by decide +kernel) rfl ?_
  refine b_icT (c := .eq) (o := 7) (t := 22) (y := 0) (w := .null) (by decide +kernel) cmp_eq (fun _ => ?_) (fun _ => ?_)
  · exact b_thr (i := (.new 127, 10, 1, .null)) (by decide +kernel) rfl rfl rfl
  · refine b_run [(18, .iload_n 1, 0, 0, .null)] (pc' := 19) (ls' := [some (.ref 1029), some (.int c3)]) (st' := [.int c3]) (by decide +kernel) rfl ?_
    refine b_izF (c := .ne) (o := 13) (t := 32) (y := 0) (w := .null) (by decide +kernel) cmp_ne (fun _ => ?_) (fun _ => ?_)
    · exact b_thr (i := (.new 127, 10, 1, .null)) (by decide +kernel) rfl rfl rfl
    · refine b_run [(32, .iload_n 1, 0, 0, .null), (33, .bipush 38, 0, 0, .null)] (pc' := 35) (ls' := [some (.ref 1029), some (.int c3)]) (st' := [.int 38, .int c3]) (by decide +kernel) rfl ?_
      refine b_icT (c := .eq) (o := 15) (t := 50) (y := 0) (w := .null) (by decide +kernel) cmp_eq (fun _ => ?_) (fun _ => ?_)
      · refine b_run [(50, .aload_n 0, 0, 0, .null)] (pc' := 51) (ls' := [some (.ref 1029), some (.int c3)]) (st' := [.ref 1029]) (by decide +kernel) rfl ?_
        refine b_getC (b := 1001) (q := 9) (ci := 7) (k := 0) (w := .null) (by decide +kernel) (by decide +kernel) ?_
        refine b_run [(54, .aload_n 0, 0, 0, .null)] (pc' := 55) (ls' := [some (.ref 1029), some (.int c3)]) (st' := [.ref 1029, .ref 1001]) (by decide +kernel) rfl ?_
        refine b_gI (q := 19) (ci := 7) (k := 2) (w := .null) (by decide +kernel) (by decide +kernel) (fun c4 => ?_)
        refine b_run [(58, .ldc 168, 0, 22, .ref 23)] (pc' := 60) (ls' := [some (.ref 1029), some (.int c3)]) (st' := [.ref 23, .int c4, .ref 1001]) (by decide +kernel) rfl ?_
        refine b_callI 94 3 [.ref 1001, .int c4, .ref 23] (rest := []) (by decide +kernel) rfl rfl rfl (go_O rfl (by decide +kernel) (by decide +kernel : isO 1001 5 = true)) rfl (s94 hv F 1001 c4 23 σ2 (by decide +kernel : isO 1001 5 = true) (by decide +kernel : isS 23 = true)) (by decide) (fun c6 σ5 => ?_)
        refine b_izT (c := .eq) (o := 16) (t := 79) (y := 0) (w := .null) (by decide +kernel) cmp_eq (fun _ => ?_) (fun _ => ?_)
        · refine b_run [(79, .aload_n 0, 0, 0, .null)] (pc' := 80) (ls' := [some (.ref 1029), some (.int c3)]) (st' := [.ref 1029]) (by decide +kernel) rfl ?_
          refine b_getC (b := 1001) (q := 9) (ci := 7) (k := 0) (w := .null) (by decide +kernel) (by decide +kernel) ?_
          refine b_run [(83, .aload_n 0, 0, 0, .null)] (pc' := 84) (ls' := [some (.ref 1029), some (.int c3)]) (st' := [.ref 1029, .ref 1001]) (by decide +kernel) rfl ?_
          refine b_gI (q := 19) (ci := 7) (k := 2) (w := .null) (by decide +kernel) (by decide +kernel) (fun c7 => ?_)
          refine b_run [(87, .ldc 170, 0, 23, .ref 24)] (pc' := 89) (ls' := [some (.ref 1029), some (.int c3)]) (st' := [.ref 24, .int c7, .ref 1001]) (by decide +kernel) rfl ?_
          refine b_callI 94 3 [.ref 1001, .int c7, .ref 24] (rest := []) (by decide +kernel) rfl rfl rfl (go_O rfl (by decide +kernel) (by decide +kernel : isO 1001 5 = true)) rfl (s94 hv F 1001 c7 24 σ5 (by decide +kernel : isO 1001 5 = true) (by decide +kernel : isS 24 = true)) (by decide) (fun c9 σ8 => ?_)
          refine b_izT (c := .eq) (o := 16) (t := 108) (y := 0) (w := .null) (by decide +kernel) cmp_eq (fun _ => ?_) (fun _ => ?_)
          · refine b_run [(108, .aload_n 0, 0, 0, .null)] (pc' := 109) (ls' := [some (.ref 1029), some (.int c3)]) (st' := [.ref 1029]) (by decide +kernel) rfl ?_
            refine b_getC (b := 1001) (q := 9) (ci := 7) (k := 0) (w := .null) (by decide +kernel) (by decide +kernel) ?_
            refine b_run [(112, .aload_n 0, 0, 0, .null)] (pc' := 113) (ls' := [some (.ref 1029), some (.int c3)]) (st' := [.ref 1029, .ref 1001]) (by decide +kernel) rfl ?_
            refine b_gI (q := 19) (ci := 7) (k := 2) (w := .null) (by decide +kernel) (by decide +kernel) (fun c10 => ?_)
            refine b_run [(116, .ldc 172, 0, 24, .ref 25)] (pc' := 118) (ls' := [some (.ref 1029), some (.int c3)]) (st' := [.ref 25, .int c10, .ref 1001]) (by decide +kernel) rfl ?_
            refine b_callI 94 3 [.ref 1001, .int c10, .ref 25] (rest := []) (by decide +kernel) rfl rfl rfl (go_O rfl (by decide +kernel) (by decide +kernel : isO 1001 5 = true)) rfl (s94 hv F 1001 c10 25 σ8 (by decide +kernel : isO 1001 5 = true) (by decide +kernel : isS 25 = true)) (by decide) (fun c12 σ11 => ?_)
            refine b_izT (c := .eq) (o := 16) (t := 137) (y := 0) (w := .null) (by decide +kernel) cmp_eq (fun _ => ?_) (fun _ => ?_)
            · refine b_run [(137, .aload_n 0, 0, 0, .null)] (pc' := 138) (ls' := [some (.ref 1029), some (.int c3)]) (st' := [.ref 1029]) (by decide +kernel) rfl ?_
              refine b_getC (b := 1001) (q := 9) (ci := 7) (k := 0) (w := .null) (by decide +kernel) (by decide +kernel) ?_
              refine b_run [(141, .aload_n 0, 0, 0, .null)] (pc' := 142) (ls' := [some (.ref 1029), some (.int c3)]) (st' := [.ref 1029, .ref 1001]) (by decide +kernel) rfl ?_
              refine b_gI (q := 19) (ci := 7) (k := 2) (w := .null) (by decide +kernel) (by decide +kernel) (fun c13 => ?_)
              refine b_run [(145, .ldc 174, 0, 25, .ref 26)] (pc' := 147) (ls' := [some (.ref 1029), some (.int c3)]) (st' := [.ref 26, .int c13, .ref 1001]) (by decide +kernel) rfl ?_
              refine b_callI 94 3 [.ref 1001, .int c13, .ref 26] (rest := []) (by decide +kernel) rfl rfl rfl (go_O rfl (by decide +kernel) (by decide +kernel : isO 1001 5 = true)) rfl (s94 hv F 1001 c13 26 σ11 (by decide +kernel : isO 1001 5 = true) (by decide +kernel : isS 26 = true)) (by decide) (fun c15 σ14 => ?_)
              refine b_izT (c := .eq) (o := 17) (t := 167) (y := 0) (w := .null) (by decide +kernel) cmp_eq (fun _ => ?_) (fun _ => ?_)
              · refine b_run [(167, .aload_n 0, 0, 0, .null)] (pc' := 168) (ls' := [some (.ref 1029), some (.int c3)]) (st' := [.ref 1029]) (by decide +kernel) rfl ?_
                refine b_getC (b := 1001) (q := 9) (ci := 7) (k := 0) (w := .null) (by decide +kernel) (by decide +kernel) ?_
                refine b_run [(171, .aload_n 0, 0, 0, .null)] (pc' := 172) (ls' := [some (.ref 1029), some (.int c3)]) (st' := [.ref 1029, .ref 1001]) (by decide +kernel) rfl ?_
                refine b_gI (q := 19) (ci := 7) (k := 2) (w := .null) (by decide +kernel) (by decide +kernel) (fun c16 => ?_)
                refine b_run [(175, .ldc 176, 0, 26, .ref 27)] (pc' := 177) (ls' := [some (.ref 1029), some (.int c3)]) (st' := [.ref 27, .int c16, .ref 1001]) (by decide +kernel) rfl ?_
                refine b_callI 94 3 [.ref 1001, .int c16, .ref 27] (rest := []) (by decide +kernel) rfl rfl rfl (go_O rfl (by decide +kernel) (by decide +kernel : isO 1001 5 = true)) rfl (s94 hv F 1001 c16 27 σ14 (by decide +kernel : isO 1001 5 = true) (by decide +kernel : isS 27 = true)) (by decide) (fun c18 σ17 => ?_)
                refine b_izT (c := .eq) (o := 17) (t := 197) (y := 0) (w := .null) (by decide +kernel) cmp_eq (fun _ => ?_) (fun _ => ?_)
                · exact b_thr (i := (.new 127, 10, 1, .null)) (by decide +kernel) rfl rfl rfl
                · refine b_run [(183, .aload_n 0, 0, 0, .null), (184, .dup, 0, 0, .null)] (pc' := 185) (ls' := [some (.ref 1029), some (.int c3)]) (st' := [.ref 1029, .ref 1029]) (by decide +kernel) rfl ?_
                  refine b_gI (q := 19) (ci := 7) (k := 2) (w := .null) (by decide +kernel) (by decide +kernel) (fun c19 => ?_)
                  refine b_run [(188, .bipush 6, 0, 0, .null), (190, .iadd, 0, 0, .null)] (pc' := 191) (ls' := [some (.ref 1029), some (.int c3)]) (st' := [.int (c19 + 6), .ref 1029]) (by decide +kernel) rfl ?_
                  refine b_pI (q := 19) (ci := 7) (k := 2) (w := .null) (by decide +kernel) (by decide +kernel) (fit_I _) (fun σ20 => ?_)
                  refine b_run [(194, .bipush 39, 0, 0, .null)] (pc' := 196) (ls' := [some (.ref 1029), some (.int c3)]) (st' := [.int 39]) (by decide +kernel) rfl ?_
                  exact b_ret (i := (.ireturn, 0, 0, .null)) (by decide +kernel) rfl rfl (fit_I _)
              · refine b_run [(153, .aload_n 0, 0, 0, .null), (154, .dup, 0, 0, .null)] (pc' := 155) (ls' := [some (.ref 1029), some (.int c3)]) (st' := [.ref 1029, .ref 1029]) (by decide +kernel) rfl ?_
                refine b_gI (q := 19) (ci := 7) (k := 2) (w := .null) (by decide +kernel) (by decide +kernel) (fun c21 => ?_)
                refine b_run [(158, .bipush 6, 0, 0, .null), (160, .iadd, 0, 0, .null)] (pc' := 161) (ls' := [some (.ref 1029), some (.int c3)]) (st' := [.int (c21 + 6), .ref 1029]) (by decide +kernel) rfl ?_
                refine b_pI (q := 19) (ci := 7) (k := 2) (w := .null) (by decide +kernel) (by decide +kernel) (fit_I _) (fun σ22 => ?_)
                refine b_run [(164, .bipush 34, 0, 0, .null)] (pc' := 166) (ls' := [some (.ref 1029), some (.int c3)]) (st' := [.int 34]) (by decide +kernel) rfl ?_
                exact b_ret (i := (.ireturn, 0, 0, .null)) (by decide +kernel) rfl rfl (fit_I _)
            · refine b_run [(124, .aload_n 0, 0, 0, .null), (125, .dup, 0, 0, .null)] (pc' := 126) (ls' := [some (.ref 1029), some (.int c3)]) (st' := [.ref 1029, .ref 1029]) (by decide +kernel) rfl ?_
              refine b_gI (q := 19) (ci := 7) (k := 2) (w := .null) (by decide +kernel) (by decide +kernel) (fun c23 => ?_)
              refine b_run [(129, .iconst 5, 0, 0, .null), (130, .iadd, 0, 0, .null)] (pc' := 131) (ls' := [some (.ref 1029), some (.int c3)]) (st' := [.int (c23 + 5), .ref 1029]) (by decide +kernel) rfl ?_
              refine b_pI (q := 19) (ci := 7) (k := 2) (w := .null) (by decide +kernel) (by decide +kernel) (fit_I _) (fun σ24 => ?_)
              refine b_run [(134, .bipush 38, 0, 0, .null)] (pc' := 136) (ls' := [some (.ref 1029), some (.int c3)]) (st' := [.int 38]) (by decide +kernel) rfl ?_
              exact b_ret (i := (.ireturn, 0, 0, .null)) (by decide +kernel) rfl rfl (fit_I _)
          · refine b_run [(95, .aload_n 0, 0, 0, .null), (96, .dup, 0, 0, .null)] (pc' := 97) (ls' := [some (.ref 1029), some (.int c3)]) (st' := [.ref 1029, .ref 1029]) (by decide +kernel) rfl ?_
            refine b_gI (q := 19) (ci := 7) (k := 2) (w := .null) (by decide +kernel) (by decide +kernel) (fun c25 => ?_)
            refine b_run [(100, .iconst 4, 0, 0, .null), (101, .iadd, 0, 0, .null)] (pc' := 102) (ls' := [some (.ref 1029), some (.int c3)]) (st' := [.int (c25 + 4), .ref 1029]) (by decide +kernel) rfl ?_
            refine b_pI (q := 19) (ci := 7) (k := 2) (w := .null) (by decide +kernel) (by decide +kernel) (fit_I _) (fun σ26 => ?_)
            refine b_run [(105, .bipush 62, 0, 0, .null)] (pc' := 107) (ls' := [some (.ref 1029), some (.int c3)]) (st' := [.int 62]) (by decide +kernel) rfl ?_
            exact b_ret (i := (.ireturn, 0, 0, .null)) (by decide +kernel) rfl rfl (fit_I _)
        · refine b_run [(66, .aload_n 0, 0, 0, .null), (67, .dup, 0, 0, .null)] (pc' := 68) (ls' := [some (.ref 1029), some (.int c3)]) (st' := [.ref 1029, .ref 1029]) (by decide +kernel) rfl ?_
          refine b_gI (q := 19) (ci := 7) (k := 2) (w := .null) (by decide +kernel) (by decide +kernel) (fun c27 => ?_)
          refine b_run [(71, .iconst 4, 0, 0, .null), (72, .iadd, 0, 0, .null)] (pc' := 73) (ls' := [some (.ref 1029), some (.int c3)]) (st' := [.int (c27 + 4), .ref 1029]) (by decide +kernel) rfl ?_
          refine b_pI (q := 19) (ci := 7) (k := 2) (w := .null) (by decide +kernel) (by decide +kernel) (fit_I _) (fun σ28 => ?_)
          refine b_run [(76, .bipush 60, 0, 0, .null)] (pc' := 78) (ls' := [some (.ref 1029), some (.int c3)]) (st' := [.int 60]) (by decide +kernel) rfl ?_
          exact b_ret (i := (.ireturn, 0, 0, .null)) (by decide +kernel) rfl rfl (fit_I _)
      · refine b_run [(38, .aload_n 0, 0, 0, .null), (39, .dup, 0, 0, .null)] (pc' := 40) (ls' := [some (.ref 1029), some (.int c3)]) (st' := [.ref 1029, .ref 1029]) (by decide +kernel) rfl ?_
        refine b_gI (q := 19) (ci := 7) (k := 2) (w := .null) (by decide +kernel) (by decide +kernel) (fun c29 => ?_)
        refine b_run [(43, .iconst 1, 0, 0, .null), (44, .iadd, 0, 0, .null)] (pc' := 45) (ls' := [some (.ref 1029), some (.int c3)]) (st' := [.int (c29 + 1), .ref 1029]) (by decide +kernel) rfl ?_
        refine b_pI (q := 19) (ci := 7) (k := 2) (w := .null) (by decide +kernel) (by decide +kernel) (fit_I _) (fun σ30 => ?_)
        refine b_run [(48, .iload_n 1, 0, 0, .null)] (pc' := 49) (ls' := [some (.ref 1029), some (.int c3)]) (st' := [.int c3]) (by decide +kernel) rfl ?_
        exact b_ret (i := (.ireturn, 0, 0, .null)) (by decide +kernel) rfl rfl (fit_I _)
/-- TreeStore$Row.add(I)V -/
def f90 (F : Nat) (x0 : Nat) (x1 : Int32) (σ : St) : Rs := cI (f89 F x0 1 σ) fun c2 σ1 => 
    if c2 = 0 then oV σ1
    else lt (σ1.1 x0 1) fun c3 => 
    if inB c3 (laN ((rfF x0 0))) then lt (uI σ1 (rfF x0 0) c3.toNatClampNeg (vp_nar .char (((x1 : Int32).toUInt32 % 65536).toInt32))) fun σ4 => lt (σ4.1 x0 1) fun c5 => lt (uI σ4 x0 1 (c5 + 1)) fun σ6 => oV σ6 else none
theorem s90 {sc : aSc} (hv : vOk sc) (F : Nat) (x0 : Nat) (x1 : Int32) (σ : St) (hx0 : isO x0 5 = true) : bEx sc 1 90 0 [some (.ref x0), some (.int x1)] [] σ (f90 F x0 x1 σ) := by
  unfold f90
  refine b_run [(0, .aload_n 0, 0, 0, .null), (1, .iconst 1, 0, 0, .null)] (pc' := 2) (ls' := [some (.ref x0), some (.int x1)]) (st' := [.int 1, .ref x0]) (by decide +kernel) rfl ?_
  refine b_callI 89 2 [.ref x0, .int 1] (rest := []) (by decide +kernel) rfl rfl rfl (go_O rfl (by decide +kernel) hx0) rfl (s89 hv F x0 1 σ hx0) (by decide) (fun c2 σ1 => ?_)
  refine b_izT (c := .eq) (o := 24) (t := 29) (y := 0) (w := .null) (by decide +kernel) cmp_eq (fun _ => ?_) (fun _ => ?_)
  · exact b_ret0 (i := (.return_, 0, 0, .null)) (by decide +kernel) rfl rfl
  · refine b_run [(8, .aload_n 0, 0, 0, .null)] (pc' := 9) (ls' := [some (.ref x0), some (.int x1)]) (st' := [.ref x0]) (by decide +kernel) rfl ?_
    refine b_getC (q := 9) (ci := 5) (k := 0) (w := .null) (by decide +kernel) (fk_C5_0 hx0) ?_
    refine b_run [(12, .aload_n 0, 0, 0, .null)] (pc' := 13) (ls' := [some (.ref x0), some (.int x1)]) (st' := [.ref x0, .ref ((rfF x0 0))]) (by decide +kernel) rfl ?_
    refine b_gI (q := 15) (ci := 5) (k := 1) (w := .null) (by decide +kernel) (fk_I5_1 hx0) (fun c3 => ?_)
    refine b_run [(16, .iload_n 1, 0, 0, .null), (17, .i2c, 0, 0, .null)] (pc' := 18) (ls' := [some (.ref x0), some (.int x1)]) (st' := [.int (((x1 : Int32).toUInt32 % 65536).toInt32), .int c3, .ref ((rfF x0 0))]) (by decide +kernel) rfl ?_
    refine b_guard (fun hb => ?_)
    refine b_sC (ci := 0) (y := 0) (w := .null) (by decide +kernel) (fk_A5_0 hx0) hb (fun σ4 => ?_)
    refine b_run [(19, .aload_n 0, 0, 0, .null), (20, .dup, 0, 0, .null)] (pc' := 21) (ls' := [some (.ref x0), some (.int x1)]) (st' := [.ref x0, .ref x0]) (by decide +kernel) rfl ?_
    refine b_gI (q := 15) (ci := 5) (k := 1) (w := .null) (by decide +kernel) (fk_I5_1 hx0) (fun c5 => ?_)
    refine b_run [(24, .iconst 1, 0, 0, .null), (25, .iadd, 0, 0, .null)] (pc' := 26) (ls' := [some (.ref x0), some (.int x1)]) (st' := [.int (c5 + 1), .ref x0]) (by decide +kernel) rfl ?_
    refine b_pI (q := 15) (ci := 5) (k := 1) (w := .null) (by decide +kernel) (fk_I5_1 hx0) (fit_I _) (fun σ6 => ?_)
    exact b_ret0 (i := (.return_, 0, 0, .null)) (by decide +kernel) rfl rfl
def f115_158 (F : Nat) (y1 : Int32) (y4 : Int32) (y5 : Int32) (y6 : Int32) (σ : St) : Rs := cV (f111 F σ) fun σ19 => cV (f110 F y5 σ19) fun σ21 => cV (f124 F 1016 2 y1 y4 y6 σ21) fun σ23 => oV σ23
theorem s115_158 {sc : aSc} (hv : vOk sc) (F : Nat) (y1 : Int32) (y4 : Int32) (y5 : Int32) (y6 : Int32) (σ : St) : bEx sc 6 115 158 [some (.ref 1029), some (.int y1), none, none, some (.int y4), some (.int y5), some (.int y6)] [] σ (f115_158 F y1 y4 y5 y6 σ) := by
  unfold f115_158
  refine b_run [(158, .aload_n 0, 0, 0, .null)] (pc' := 159) (ls' := [some (.ref 1029), some (.int y1), none, none, some (.int y4), some (.int y5), some (.int y6)]) (st' := [.ref 1029]) (by decide +kernel) rfl ?_
  refine b_callV 111 1 [.ref 1029] (rest := []) (by decide +kernel) rfl rfl rfl (go_O rfl (by decide +kernel) (by decide +kernel : isO 1029 7 = true)) rfl (s111 hv F σ) (by decide) (fun σ19 => ?_)
  refine b_run [(162, .aload_n 0, 0, 0, .null), (163, .iload 5, 0, 0, .null)] (pc' := 165) (ls' := [some (.ref 1029), some (.int y1), none, none, some (.int y4), some (.int y5), some (.int y6)]) (st' := [.int y5, .ref 1029]) (by decide +kernel) rfl ?_
  refine b_callV 110 2 [.ref 1029, .int y5] (rest := []) (by decide +kernel) rfl rfl rfl (go_O rfl (by decide +kernel) (by decide +kernel : isO 1029 7 = true)) rfl (s110 hv F y5 σ19) (by decide) (fun σ21 => ?_)
  refine b_run [(168, .aload_n 0, 0, 0, .null)] (pc' := 169) (ls' := [some (.ref 1029), some (.int y1), none, none, some (.int y4), some (.int y5), some (.int y6)]) (st' := [.ref 1029]) (by decide +kernel) rfl ?_
  refine b_getC (b := 1016) (q := 15) (ci := 7) (k := 1) (w := .null) (by decide +kernel) (by decide +kernel) ?_
  refine b_run [(172, .iconst 2, 0, 0, .null), (173, .iload_n 1, 0, 0, .null), (174, .iload 4, 0, 0, .null), (176, .iload 6, 0, 0, .null)] (pc' := 178) (ls' := [some (.ref 1029), some (.int y1), none, none, some (.int y4), some (.int y5), some (.int y6)]) (st' := [.int y6, .int y4, .int y1, .int 2, .ref 1016]) (by decide +kernel) rfl ?_
  refine b_callV 124 5 [.ref 1016, .int 2, .int y1, .int y4, .int y6] (rest := []) (by decide +kernel) rfl rfl rfl (go_O rfl (by decide +kernel) (by decide +kernel : isO 1016 8 = true)) rfl (s124 hv F 1016 2 y1 y4 y6 σ21 (by decide +kernel : isO 1016 8 = true)) (by decide) (fun σ23 => ?_)
  exact b_ret0 (i := (.return_, 0, 0, .null)) (by decide +kernel) rfl rfl
def f115_115 (F : Nat) : Nat → Int32 → Int32 → Int32 → Int32 → St → Rs
  | 0, _, _, _, _, _ => none
  | n + 1, y1, y4, y5, y6, σ => if y6 < 120 then 
    lt (σ.1 1029 2) fun c16 => 
    cI (f92 F 1001 c16 σ) fun c18 σ17 => 
    if c18 = y5 then f115_158 F y1 y4 y5 y6 σ17
    else cI (f117 F σ17) fun c26 σ25 => cV (f90 F 1027 c26 σ25) fun σ27 => f115_115 F n y1 y4 y5 (y6 + 1) σ27
    else f115_158 F y1 y4 y5 y6 σ
theorem s115_115 {sc : aSc} (hv : vOk sc) (F : Nat) : ∀ (n : Nat) (y1 : Int32) (y4 : Int32) (y5 : Int32) (y6 : Int32) (σ : St), bEx sc 6 115 115 [some (.ref 1029), some (.int y1), none, none, some (.int y4), some (.int y5), some (.int y6)] [] σ (f115_115 F n y1 y4 y5 y6 σ) := by
  intro n
  induction n with
  | zero => intro y1 y4 y5 y6 σ; exact b_none
  | succ n ih =>
    intro y1 y4 y5 y6 σ
    rw [f115_115.eq_2]
    refine b_run [(115, .iload 6, 0, 0, .null), (117, .bipush 120, 0, 0, .null)] (pc' := 119) (ls' := [some (.ref 1029), some (.int y1), none, none, some (.int y4), some (.int y5), some (.int y6)]) (st' := [.int 120, .int y6]) (by decide +kernel) rfl ?_
    refine b_icF (c := .ge) (o := 39) (t := 158) (y := 0) (w := .null) (by decide +kernel) cmp_ge (fun _ => ?_) (fun _ => ?_)
    · refine b_run [(122, .aload_n 0, 0, 0, .null)] (pc' := 123) (ls' := [some (.ref 1029), some (.int y1), none, none, some (.int y4), some (.int y5), some (.int y6)]) (st' := [.ref 1029]) (by decide +kernel) rfl ?_
      refine b_getC (b := 1001) (q := 9) (ci := 7) (k := 0) (w := .null) (by decide +kernel) (by decide +kernel) ?_
      refine b_run [(126, .aload_n 0, 0, 0, .null)] (pc' := 127) (ls' := [some (.ref 1029), some (.int y1), none, none, some (.int y4), some (.int y5), some (.int y6)]) (st' := [.ref 1029, .ref 1001]) (by decide +kernel) rfl ?_
      refine b_gI (q := 19) (ci := 7) (k := 2) (w := .null) (by decide +kernel) (by decide +kernel) (fun c16 => ?_)
      refine b_callI 92 2 [.ref 1001, .int c16] (rest := []) (by decide +kernel) rfl rfl rfl (go_O rfl (by decide +kernel) (by decide +kernel : isO 1001 5 = true)) rfl (s92 hv F 1001 c16 σ (by decide +kernel : isO 1001 5 = true)) (by decide) (fun c18 σ17 => ?_)
      refine b_run [(133, .iload 5, 0, 0, .null)] (pc' := 135) (ls' := [some (.ref 1029), some (.int y1), none, none, some (.int y4), some (.int y5), some (.int y6)]) (st' := [.int y5, .int c18]) (by decide +kernel) rfl ?_
      refine b_icT (c := .eq) (o := 23) (t := 158) (y := 0) (w := .null) (by decide +kernel) cmp_eq (fun _ => ?_) (fun _ => ?_)
      · exact b_wk (wS (wS (wN (wN (wS (wS (wS w0))))))) (s115_158 hv F y1 y4 y5 y6 σ17)
      · refine b_run [(138, .aload_n 0, 0, 0, .null)] (pc' := 139) (ls' := [some (.ref 1029), some (.int y1), none, none, some (.int y4), some (.int y5), some (.int y6)]) (st' := [.ref 1029]) (by decide +kernel) rfl ?_
        refine b_getC (b := 1016) (q := 15) (ci := 7) (k := 1) (w := .null) (by decide +kernel) (by decide +kernel) ?_
        refine b_getC (b := 1027) (q := 107) (ci := 8) (k := 9) (w := .null) (by decide +kernel) (by decide +kernel) ?_
        refine b_run [(145, .aload_n 0, 0, 0, .null)] (pc' := 146) (ls' := [some (.ref 1029), some (.int y1), none, none, some (.int y4), some (.int y5), some (.int y6)]) (st' := [.ref 1029, .ref 1027]) (by decide +kernel) rfl ?_
        refine b_callI 117 1 [.ref 1029] (rest := [.ref 1027]) (by decide +kernel) rfl rfl rfl (go_O rfl (by decide +kernel) (by decide +kernel : isO 1029 7 = true)) rfl (s117 hv F σ17) (by decide) (fun c26 σ25 => ?_)
        refine b_callV 90 2 [.ref 1027, .int c26] (rest := []) (by decide +kernel) rfl rfl rfl (go_O rfl (by decide +kernel) (by decide +kernel : isO 1027 5 = true)) rfl (s90 hv F 1027 c26 σ25 (by decide +kernel : isO 1027 5 = true)) (by decide) (fun σ27 => ?_)
        refine b_run [(152, .iinc 6 1, 0, 0, .null), (155, .goto (-40), 115, 0, .null)] (pc' := 115) (ls' := [some (.ref 1029), some (.int y1), none, none, some (.int y4), some (.int y5), some (.int (y6 + 1))]) (st' := []) (by decide +kernel) rfl ?_
        exact b_wk (wS (wS (wN (wN (wS (wS (wS w0))))))) (ih y1 y4 y5 (y6 + 1) σ27)
    · exact b_wk (wS (wS (wN (wN (wS (wS (wS w0))))))) (s115_158 hv F y1 y4 y5 y6 σ)
def f115_75 (F : Nat) (y1 : Int32) (y3 : Int32) (y4 : Int32) (y5 : Int32) (σ : St) : Rs := lt (σ.1 1029 2) fun c11 => 
    lt (uI σ 1029 2 (c11 + 1)) fun σ12 => lt (σ12.1 1027 1) fun c13 => cV (f95 F 1027 c13 1001 y3 y4 σ12) fun σ14 => f115_115 F F y1 y4 y5 0 σ14
theorem s115_75 {sc : aSc} (hv : vOk sc) (F : Nat) (y1 : Int32) (y3 : Int32) (y4 : Int32) (y5 : Int32) (σ : St) : bEx sc 6 115 75 [some (.ref 1029), some (.int y1), none, some (.int y3), some (.int y4), some (.int y5), none] [] σ (f115_75 F y1 y3 y4 y5 σ) := by
  unfold f115_75
  refine b_run [(75, .aload_n 0, 0, 0, .null), (76, .dup, 0, 0, .null)] (pc' := 77) (ls' := [some (.ref 1029), some (.int y1), none, some (.int y3), some (.int y4), some (.int y5), none]) (st' := [.ref 1029, .ref 1029]) (by decide +kernel) rfl ?_
  refine b_gI (q := 19) (ci := 7) (k := 2) (w := .null) (by decide +kernel) (by decide +kernel) (fun c11 => ?_)
  refine b_run [(80, .iconst 1, 0, 0, .null), (81, .iadd, 0, 0, .null)] (pc' := 82) (ls' := [some (.ref 1029), some (.int y1), none, some (.int y3), some (.int y4), some (.int y5), none]) (st' := [.int (c11 + 1), .ref 1029]) (by decide +kernel) rfl ?_
  refine b_pI (q := 19) (ci := 7) (k := 2) (w := .null) (by decide +kernel) (by decide +kernel) (fit_I _) (fun σ12 => ?_)
  refine b_run [(85, .aload_n 0, 0, 0, .null)] (pc' := 86) (ls' := [some (.ref 1029), some (.int y1), none, some (.int y3), some (.int y4), some (.int y5), none]) (st' := [.ref 1029]) (by decide +kernel) rfl ?_
  refine b_getC (b := 1016) (q := 15) (ci := 7) (k := 1) (w := .null) (by decide +kernel) (by decide +kernel) ?_
  refine b_getC (b := 1027) (q := 107) (ci := 8) (k := 9) (w := .null) (by decide +kernel) (by decide +kernel) ?_
  refine b_run [(92, .aload_n 0, 0, 0, .null)] (pc' := 93) (ls' := [some (.ref 1029), some (.int y1), none, some (.int y3), some (.int y4), some (.int y5), none]) (st' := [.ref 1029, .ref 1027]) (by decide +kernel) rfl ?_
  refine b_getC (b := 1016) (q := 15) (ci := 7) (k := 1) (w := .null) (by decide +kernel) (by decide +kernel) ?_
  refine b_getC (b := 1027) (q := 107) (ci := 8) (k := 9) (w := .null) (by decide +kernel) (by decide +kernel) ?_
  refine b_gI (q := 51) (ci := 5) (k := 1) (w := .null) (by decide +kernel) (by decide +kernel) (fun c13 => ?_)
  refine b_run [(102, .aload_n 0, 0, 0, .null)] (pc' := 103) (ls' := [some (.ref 1029), some (.int y1), none, some (.int y3), some (.int y4), some (.int y5), none]) (st' := [.ref 1029, .int c13, .ref 1027]) (by decide +kernel) rfl ?_
  refine b_getC (b := 1001) (q := 9) (ci := 7) (k := 0) (w := .null) (by decide +kernel) (by decide +kernel) ?_
  refine b_run [(106, .iload_n 3, 0, 0, .null), (107, .iload 4, 0, 0, .null)] (pc' := 109) (ls' := [some (.ref 1029), some (.int y1), none, some (.int y3), some (.int y4), some (.int y5), none]) (st' := [.int y4, .int y3, .ref 1001, .int c13, .ref 1027]) (by decide +kernel) rfl ?_
  refine b_callV 95 5 [.ref 1027, .int c13, .ref 1001, .int y3, .int y4] (rest := []) (by decide +kernel) rfl rfl rfl (go_O rfl (by decide +kernel) (by decide +kernel : isO 1027 5 = true)) rfl (s95 hv F 1027 c13 1001 y3 y4 σ12 (by decide +kernel : isO 1027 5 = true) (by decide +kernel : isO 1001 5 = true)) (by decide) (fun σ14 => ?_)
  refine b_run [(112, .iconst 0, 0, 0, .null), (113, .istore 6, 0, 0, .null)] (pc' := 115) (ls' := [some (.ref 1029), some (.int y1), none, some (.int y3), some (.int y4), some (.int y5), some (.int 0)]) (st' := []) (by decide +kernel) rfl ?_
  exact b_wk (wS (wS (wN (wN (wS (wS (wS w0))))))) (s115_115 hv F F y1 y4 y5 0 σ14)
/-- TreeStore$TextReader.readAttribute(II)V -/
def f115 (F : Nat) (x1 : Int32) (x2 : Int32) (σ : St) : Rs := lt (σ.1 1029 2) fun c1 => 
    cI (f113 F σ) fun c3 σ2 => 
    cI (f116 F x2 c1 c3 σ2) fun c5 σ4 => 
    if c5 = 0 then 
    cV (f110 F 61 σ4) fun σ6 => 
    lt (σ6.1 1029 2) fun c8 => 
    cI (f92 F 1001 c8 σ6) fun c10 σ9 => 
    if c10 = 34 then f115_75 F x1 c1 c3 c10 σ9
    else if c10 = 39 then f115_75 F x1 c1 c3 c10 σ9
    else oT 10 σ9
    else oT 10 σ4
theorem s115 {sc : aSc} (hv : vOk sc) (F : Nat) (x1 : Int32) (x2 : Int32) (σ : St) : bEx sc 6 115 0 [some (.ref 1029), some (.int x1), some (.int x2), none, none, none, none] [] σ (f115 F x1 x2 σ) := by
  unfold f115
  refine b_run [(0, .aload_n 0, 0, 0, .null)] (pc' := 1) (ls' := [some (.ref 1029), some (.int x1), some (.int x2), none, none, none, none]) (st' := [.ref 1029]) (by decide +kernel) rfl ?_
  refine b_gI (q := 19) (ci := 7) (k := 2) (w := .null) (by decide +kernel) (by decide +kernel) (fun c1 => ?_)
  refine b_run [(4, .istore_n 3, 0, 0, .null), (5, .aload_n 0, 0, 0, .null)] (pc' := 6) (ls' := [some (.ref 1029), some (.int x1), some (.int x2), some (.int c1), none, none, none]) (st' := [.ref 1029]) (by decide +kernel) rfl ?_
  refine b_callI 113 1 [.ref 1029] (rest := []) (by decide +kernel) rfl rfl rfl (go_O rfl (by decide +kernel) (by decide +kernel : isO 1029 7 = true)) rfl (s113 hv F σ) (by decide) (fun c3 σ2 => ?_)
  refine b_run [(9, .istore 4, 0, 0, .null), (11, .aload_n 0, 0, 0, .null), (12, .iload_n 2, 0, 0, .null), (13, .iload_n 3, 0, 0, .null), (14, .iload 4, 0, 0, .null)] (pc' := 16) (ls' := [some (.ref 1029), some (.int x1), some (.int x2), some (.int c1), some (.int c3), none, none]) (st' := [.int c3, .int c1, .int x2, .ref 1029]) (by decide +kernel) rfl ?_
  refine b_callI 116 4 [.ref 1029, .int x2, .int c1, .int c3] (rest := []) (by decide +kernel) rfl rfl rfl (go_O rfl (by decide +kernel) (by decide +kernel : isO 1029 7 = true)) rfl (s116 hv F x2 c1 c3 σ2) (by decide) (fun c5 σ4 => ?_)
  refine b_izT (c := .eq) (o := 13) (t := 32) (y := 0) (w := .null) (by decide +kernel) cmp_eq (fun _ => ?_) (fun _ => ?_)
  · refine b_run [(32, .aload_n 0, 0, 0, .null), (33, .bipush 61, 0, 0, .null)] (pc' := 35) (ls' := [some (.ref 1029), some (.int x1), some (.int x2), some (.int c1), some (.int c3), none, none]) (st' := [.int 61, .ref 1029]) (by decide +kernel) rfl ?_
    refine b_callV 110 2 [.ref 1029, .int 61] (rest := []) (by decide +kernel) rfl rfl rfl (go_O rfl (by decide +kernel) (by decide +kernel : isO 1029 7 = true)) rfl (s110 hv F 61 σ4) (by decide) (fun σ6 => ?_)
    refine b_run [(38, .aload_n 0, 0, 0, .null)] (pc' := 39) (ls' := [some (.ref 1029), some (.int x1), some (.int x2), some (.int c1), some (.int c3), none, none]) (st' := [.ref 1029]) (by decide +kernel) rfl ?_
    refine b_getC (b := 1001) (q := 9) (ci := 7) (k := 0) (w := .null) (by decide +kernel) (by decide +kernel) ?_
    refine b_run [(42, .aload_n 0, 0, 0, .null)] (pc' := 43) (ls' := [some (.ref 1029), some (.int x1), some (.int x2), some (.int c1), some (.int c3), none, none]) (st' := [.ref 1029, .ref 1001]) (by decide +kernel) rfl ?_
    refine b_gI (q := 19) (ci := 7) (k := 2) (w := .null) (by decide +kernel) (by decide +kernel) (fun c8 => ?_)
    refine b_callI 92 2 [.ref 1001, .int c8] (rest := []) (by decide +kernel) rfl rfl rfl (go_O rfl (by decide +kernel) (by decide +kernel : isO 1001 5 = true)) rfl (s92 hv F 1001 c8 σ6 (by decide +kernel : isO 1001 5 = true)) (by decide) (fun c10 σ9 => ?_)
    refine b_run [(49, .istore 5, 0, 0, .null), (51, .iload 5, 0, 0, .null), (53, .bipush 34, 0, 0, .null)] (pc' := 55) (ls' := [some (.ref 1029), some (.int x1), some (.int x2), some (.int c1), some (.int c3), some (.int c10), none]) (st' := [.int 34, .int c10]) (by decide +kernel) rfl ?_
    refine b_icT (c := .eq) (o := 20) (t := 75) (y := 0) (w := .null) (by decide +kernel) cmp_eq (fun _ => ?_) (fun _ => ?_)
    · exact b_wk (wS (wS (wN (wS (wS (wS (wN w0))))))) (s115_75 hv F x1 c1 c3 c10 σ9)
    · refine b_run [(58, .iload 5, 0, 0, .null), (60, .bipush 39, 0, 0, .null)] (pc' := 62) (ls' := [some (.ref 1029), some (.int x1), some (.int x2), some (.int c1), some (.int c3), some (.int c10), none]) (st' := [.int 39, .int c10]) (by decide +kernel) rfl ?_
      refine b_icT (c := .eq) (o := 13) (t := 75) (y := 0) (w := .null) (by decide +kernel) cmp_eq (fun _ => ?_) (fun _ => ?_)
      · exact b_wk (wS (wS (wN (wS (wS (wS (wN w0))))))) (s115_75 hv F x1 c1 c3 c10 σ9)
      · exact b_thr (i := (.new 127, 10, 1, .null)) (by decide +kernel) rfl rfl rfl
  · exact b_thr (i := (.new 127, 10, 1, .null)) (by decide +kernel) rfl rfl rfl
def f114_65 (F : Nat) (k10 : Int32 → Int32 → Int32 → St → Rs) (y1 : Int32) (y2 : Int32) (y3 : Int32) (y4 : Int32) (z0 : Int32) (σ : St) : Rs := lt (uI σ 1029 2 y4) fun σ11 => 
    if z0 = 0 then oV σ11
    else cV (f115 F y1 y2 σ11) fun σ12 => k10 y1 y2 (y3 + 1) σ12
theorem s114_65 {sc : aSc} (hv : vOk sc) (F : Nat) (k10 : Int32 → Int32 → Int32 → St → Rs) (hk10 : ∀ y1 y2 y3 σ, bEx sc 7 114 10 [some (.ref 1029), some (.int y1), some (.int y2), some (.int y3), none, none] [] σ (k10 y1 y2 y3 σ)) (y1 : Int32) (y2 : Int32) (y3 : Int32) (y4 : Int32) (z0 : Int32) (σ : St) : bEx sc 7 114 65 [some (.ref 1029), some (.int y1), some (.int y2), some (.int y3), some (.int y4), none] [.int z0] σ (f114_65 F k10 y1 y2 y3 y4 z0 σ) := by
  unfold f114_65
  refine b_run [(65, .istore 5, 0, 0, .null), (67, .aload_n 0, 0, 0, .null), (68, .iload 4, 0, 0, .null)] (pc' := 70) (ls' := [some (.ref 1029), some (.int y1), some (.int y2), some (.int y3), some (.int y4), some (.int z0)]) (st' := [.int y4, .ref 1029]) (by decide +kernel) rfl ?_
  refine b_pI (q := 19) (ci := 7) (k := 2) (w := .null) (by decide +kernel) (by decide +kernel) (fit_I _) (fun σ11 => ?_)
  refine b_run [(73, .iload 5, 0, 0, .null)] (pc' := 75) (ls' := [some (.ref 1029), some (.int y1), some (.int y2), some (.int y3), some (.int y4), some (.int z0)]) (st' := [.int z0]) (by decide +kernel) rfl ?_
  refine b_izF (c := .ne) (o := 4) (t := 79) (y := 0) (w := .null) (by decide +kernel) cmp_ne (fun _ => ?_) (fun _ => ?_)
  · exact b_ret0 (i := (.return_, 0, 0, .null)) (by decide +kernel) rfl rfl
  · refine b_run [(79, .aload_n 0, 0, 0, .null), (80, .iload_n 1, 0, 0, .null), (81, .iload_n 2, 0, 0, .null)] (pc' := 82) (ls' := [some (.ref 1029), some (.int y1), some (.int y2), some (.int y3), some (.int y4), some (.int z0)]) (st' := [.int y2, .int y1, .ref 1029]) (by decide +kernel) rfl ?_
    refine b_callV 115 3 [.ref 1029, .int y1, .int y2] (rest := []) (by decide +kernel) rfl rfl rfl (go_O rfl (by decide +kernel) (by decide +kernel : isO 1029 7 = true)) rfl (s115 hv F y1 y2 σ11) (by decide) (fun σ12 => ?_)
    refine b_run [(85, .iinc 3 1, 0, 0, .null), (88, .goto (-78), 10, 0, .null)] (pc' := 10) (ls' := [some (.ref 1029), some (.int y1), some (.int y2), some (.int (y3 + 1)), some (.int y4), some (.int z0)]) (st' := []) (by decide +kernel) rfl ?_
    exact b_wk (wS (wS (wS (wS (wN (wN w0)))))) (hk10 y1 y2 (y3 + 1) σ12)
def f114_64 (F : Nat) (k10 : Int32 → Int32 → Int32 → St → Rs) (y1 : Int32) (y2 : Int32) (y3 : Int32) (y4 : Int32) (σ : St) : Rs := f114_65 F k10 y1 y2 y3 y4 0 σ
theorem s114_64 {sc : aSc} (hv : vOk sc) (F : Nat) (k10 : Int32 → Int32 → Int32 → St → Rs) (hk10 : ∀ y1 y2 y3 σ, bEx sc 7 114 10 [some (.ref 1029), some (.int y1), some (.int y2), some (.int y3), none, none] [] σ (k10 y1 y2 y3 σ)) (y1 : Int32) (y2 : Int32) (y3 : Int32) (y4 : Int32) (σ : St) : bEx sc 7 114 64 [some (.ref 1029), some (.int y1), some (.int y2), some (.int y3), some (.int y4), none] [] σ (f114_64 F k10 y1 y2 y3 y4 σ) := by
  unfold f114_64
  refine b_run [(64, .iconst 0, 0, 0, .null)] (pc' := 65) (ls' := [some (.ref 1029), some (.int y1), some (.int y2), some (.int y3), some (.int y4), none]) (st' := [.int 0]) (by decide +kernel) rfl ?_
  exact b_wk (wS (wS (wS (wS (wS (wN w0)))))) (s114_65 hv F k10 hk10 y1 y2 y3 y4 0 σ)
def f114_10 (F : Nat) : Nat → Int32 → Int32 → Int32 → St → Rs
  | 0, _, _, _, _ => none
  | n + 1, y1, y2, y3, σ => if y3 < 120 then 
    lt (σ.1 1029 2) fun c2 => 
    lt (σ.1 1001 1) fun c3 => 
    cI (f93 F 1001 c2 c3 σ) fun c5 σ4 => 
    lt (σ4.1 1029 2) fun c6 => 
    if c6 < c5 then 
    cI (f92 F 1001 c5 σ4) fun c8 σ7 => 
    cI (f22 F c8 σ7) fun c10 σ9 => 
    if c10 = 0 then f114_64 F (f114_10 F n) y1 y2 y3 c5 σ9
    else f114_65 F (f114_10 F n) y1 y2 y3 c5 1 σ9
    else f114_64 F (f114_10 F n) y1 y2 y3 c5 σ4
    else oV σ
theorem s114_10 {sc : aSc} (hv : vOk sc) (F : Nat) : ∀ (n : Nat) (y1 : Int32) (y2 : Int32) (y3 : Int32) (σ : St), bEx sc 7 114 10 [some (.ref 1029), some (.int y1), some (.int y2), some (.int y3), none, none] [] σ (f114_10 F n y1 y2 y3 σ) := by
  intro n
  induction n with
  | zero => intro y1 y2 y3 σ; exact b_none
  | succ n ih =>
    intro y1 y2 y3 σ
    rw [f114_10.eq_2]
    refine b_run [(10, .iload_n 3, 0, 0, .null), (11, .bipush 120, 0, 0, .null)] (pc' := 13) (ls' := [some (.ref 1029), some (.int y1), some (.int y2), some (.int y3), none, none]) (st' := [.int 120, .int y3]) (by decide +kernel) rfl ?_
    refine b_icF (c := .ge) (o := 78) (t := 91) (y := 0) (w := .null) (by decide +kernel) cmp_ge (fun _ => ?_) (fun _ => ?_)
    · refine b_run [(16, .aload_n 0, 0, 0, .null)] (pc' := 17) (ls' := [some (.ref 1029), some (.int y1), some (.int y2), some (.int y3), none, none]) (st' := [.ref 1029]) (by decide +kernel) rfl ?_
      refine b_getC (b := 1001) (q := 9) (ci := 7) (k := 0) (w := .null) (by decide +kernel) (by decide +kernel) ?_
      refine b_run [(20, .aload_n 0, 0, 0, .null)] (pc' := 21) (ls' := [some (.ref 1029), some (.int y1), some (.int y2), some (.int y3), none, none]) (st' := [.ref 1029, .ref 1001]) (by decide +kernel) rfl ?_
      refine b_gI (q := 19) (ci := 7) (k := 2) (w := .null) (by decide +kernel) (by decide +kernel) (fun c2 => ?_)
      refine b_run [(24, .aload_n 0, 0, 0, .null)] (pc' := 25) (ls' := [some (.ref 1029), some (.int y1), some (.int y2), some (.int y3), none, none]) (st' := [.ref 1029, .int c2, .ref 1001]) (by decide +kernel) rfl ?_
      refine b_getC (b := 1001) (q := 9) (ci := 7) (k := 0) (w := .null) (by decide +kernel) (by decide +kernel) ?_
      refine b_gI (q := 51) (ci := 5) (k := 1) (w := .null) (by decide +kernel) (by decide +kernel) (fun c3 => ?_)
      refine b_callI 93 3 [.ref 1001, .int c2, .int c3] (rest := []) (by decide +kernel) rfl rfl rfl (go_O rfl (by decide +kernel) (by decide +kernel : isO 1001 5 = true)) rfl (s93 hv F 1001 c2 c3 σ (by decide +kernel : isO 1001 5 = true)) (by decide) (fun c5 σ4 => ?_)
      refine b_run [(34, .istore 4, 0, 0, .null), (36, .iload 4, 0, 0, .null), (38, .aload_n 0, 0, 0, .null)] (pc' := 39) (ls' := [some (.ref 1029), some (.int y1), some (.int y2), some (.int y3), some (.int c5), none]) (st' := [.ref 1029, .int c5]) (by decide +kernel) rfl ?_
      refine b_gI (q := 19) (ci := 7) (k := 2) (w := .null) (by decide +kernel) (by decide +kernel) (fun c6 => ?_)
      refine b_icF (c := .le) (o := 22) (t := 64) (y := 0) (w := .null) (by decide +kernel) cmp_le (fun _ => ?_) (fun _ => ?_)
      · refine b_run [(45, .aload_n 0, 0, 0, .null)] (pc' := 46) (ls' := [some (.ref 1029), some (.int y1), some (.int y2), some (.int y3), some (.int c5), none]) (st' := [.ref 1029]) (by decide +kernel) rfl ?_
        refine b_getC (b := 1001) (q := 9) (ci := 7) (k := 0) (w := .null) (by decide +kernel) (by decide +kernel) ?_
        refine b_run [(49, .iload 4, 0, 0, .null)] (pc' := 51) (ls' := [some (.ref 1029), some (.int y1), some (.int y2), some (.int y3), some (.int c5), none]) (st' := [.int c5, .ref 1001]) (by decide +kernel) rfl ?_
        refine b_callI 92 2 [.ref 1001, .int c5] (rest := []) (by decide +kernel) rfl rfl rfl (go_O rfl (by decide +kernel) (by decide +kernel : isO 1001 5 = true)) rfl (s92 hv F 1001 c5 σ4 (by decide +kernel : isO 1001 5 = true)) (by decide) (fun c8 σ7 => ?_)
        refine b_callI 22 1 [.int c8] (rest := []) (by decide +kernel) rfl rfl rfl (go_S rfl (by decide +kernel)) rfl (s22 hv F c8 σ7) (by decide) (fun c10 σ9 => ?_)
        refine b_izT (c := .eq) (o := 7) (t := 64) (y := 0) (w := .null) (by decide +kernel) cmp_eq (fun _ => ?_) (fun _ => ?_)
        · exact b_wk (wS (wS (wS (wS (wS (wN w0)))))) (s114_64 hv F (f114_10 F n) ih y1 y2 y3 c5 σ9)
        · refine b_run [(60, .iconst 1, 0, 0, .null), (61, .goto 4, 65, 0, .null)] (pc' := 65) (ls' := [some (.ref 1029), some (.int y1), some (.int y2), some (.int y3), some (.int c5), none]) (st' := [.int 1]) (by decide +kernel) rfl ?_
          exact b_wk (wS (wS (wS (wS (wS (wN w0)))))) (s114_65 hv F (f114_10 F n) ih y1 y2 y3 c5 1 σ9)
      · exact b_wk (wS (wS (wS (wS (wS (wN w0)))))) (s114_64 hv F (f114_10 F n) ih y1 y2 y3 c5 σ4)
    · exact b_ret0 (i := (.return_, 0, 0, .null)) (by decide +kernel) rfl rfl
/-- TreeStore$TextReader.readAttributes(I)V -/
def f114 (F : Nat) (x1 : Int32) (σ : St) : Rs := lt (σ.1 1016 10) fun c1 => f114_10 F F x1 c1 0 σ
theorem s114 {sc : aSc} (hv : vOk sc) (F : Nat) (x1 : Int32) (σ : St) : bEx sc 7 114 0 [some (.ref 1029), some (.int x1), none, none, none, none] [] σ (f114 F x1 σ) := by
  unfold f114
  refine b_run [(0, .aload_n 0, 0, 0, .null)] (pc' := 1) (ls' := [some (.ref 1029), some (.int x1), none, none, none, none]) (st' := [.ref 1029]) (by decide +kernel) rfl ?_
  refine b_getC (b := 1016) (q := 15) (ci := 7) (k := 1) (w := .null) (by decide +kernel) (by decide +kernel) ?_
  refine b_gI (q := 132) (ci := 8) (k := 10) (w := .null) (by decide +kernel) (by decide +kernel) (fun c1 => ?_)
  refine b_run [(7, .istore_n 2, 0, 0, .null), (8, .iconst 0, 0, 0, .null), (9, .istore_n 3, 0, 0, .null)] (pc' := 10) (ls' := [some (.ref 1029), some (.int x1), some (.int c1), some (.int 0), none, none]) (st' := []) (by decide +kernel) rfl ?_
  exact b_wk (wS (wS (wS (wS (wN (wN w0)))))) (s114_10 hv F F x1 c1 0 σ)
def f119_86 (F : Nat) (y1 : Int32) (y2 : Int32) (σ : St) : Rs := cV (f124 F 1016 3 y1 0 y2 σ) fun σ10 => oV σ10
theorem s119_86 {sc : aSc} (hv : vOk sc) (F : Nat) (y1 : Int32) (y2 : Int32) (σ : St) : bEx sc 6 119 86 [some (.ref 1029), some (.int y1), some (.int y2)] [] σ (f119_86 F y1 y2 σ) := by
  unfold f119_86
  refine b_run [(86, .aload_n 0, 0, 0, .null)] (pc' := 87) (ls' := [some (.ref 1029), some (.int y1), some (.int y2)]) (st' := [.ref 1029]) (by decide +kernel) rfl ?_
  refine b_getC (b := 1016) (q := 15) (ci := 7) (k := 1) (w := .null) (by decide +kernel) (by decide +kernel) ?_
  refine b_run [(90, .iconst 3, 0, 0, .null), (91, .iload_n 1, 0, 0, .null), (92, .iconst 0, 0, 0, .null), (93, .iload_n 2, 0, 0, .null)] (pc' := 94) (ls' := [some (.ref 1029), some (.int y1), some (.int y2)]) (st' := [.int y2, .int 0, .int y1, .int 3, .ref 1016]) (by decide +kernel) rfl ?_
  refine b_callV 124 5 [.ref 1016, .int 3, .int y1, .int 0, .int y2] (rest := []) (by decide +kernel) rfl rfl rfl (go_O rfl (by decide +kernel) (by decide +kernel : isO 1016 8 = true)) rfl (s124 hv F 1016 3 y1 0 y2 σ (by decide +kernel : isO 1016 8 = true)) (by decide) (fun σ10 => ?_)
  exact b_ret0 (i := (.return_, 0, 0, .null)) (by decide +kernel) rfl rfl
def f119_30 (F : Nat) : Nat → Int32 → Int32 → St → Rs
  | 0, _, _, _ => none
  | n + 1, y1, y2, σ => if y2 < 120 then 
    lt (σ.1 1029 2) fun c5 => 
    lt (σ.1 1001 1) fun c6 => 
    if c5 < c6 then 
    lt (σ.1 1029 2) fun c7 => 
    cI (f92 F 1001 c7 σ) fun c9 σ8 => 
    if c9 = 60 then f119_86 F y1 y2 σ8
    else cI (f117 F σ8) fun c13 σ12 => cV (f90 F 1025 c13 σ12) fun σ14 => f119_30 F n y1 (y2 + 1) σ14
    else f119_86 F y1 y2 σ
    else f119_86 F y1 y2 σ
theorem s119_30 {sc : aSc} (hv : vOk sc) (F : Nat) : ∀ (n : Nat) (y1 : Int32) (y2 : Int32) (σ : St), bEx sc 6 119 30 [some (.ref 1029), some (.int y1), some (.int y2)] [] σ (f119_30 F n y1 y2 σ) := by
  intro n
  induction n with
  | zero => intro y1 y2 σ; exact b_none
  | succ n ih =>
    intro y1 y2 σ
    rw [f119_30.eq_2]
    refine b_run [(30, .iload_n 2, 0, 0, .null), (31, .bipush 120, 0, 0, .null)] (pc' := 33) (ls' := [some (.ref 1029), some (.int y1), some (.int y2)]) (st' := [.int 120, .int y2]) (by decide +kernel) rfl ?_
    refine b_icF (c := .ge) (o := 53) (t := 86) (y := 0) (w := .null) (by decide +kernel) cmp_ge (fun _ => ?_) (fun _ => ?_)
    · refine b_run [(36, .aload_n 0, 0, 0, .null)] (pc' := 37) (ls' := [some (.ref 1029), some (.int y1), some (.int y2)]) (st' := [.ref 1029]) (by decide +kernel) rfl ?_
      refine b_gI (q := 19) (ci := 7) (k := 2) (w := .null) (by decide +kernel) (by decide +kernel) (fun c5 => ?_)
      refine b_run [(40, .aload_n 0, 0, 0, .null)] (pc' := 41) (ls' := [some (.ref 1029), some (.int y1), some (.int y2)]) (st' := [.ref 1029, .int c5]) (by decide +kernel) rfl ?_
      refine b_getC (b := 1001) (q := 9) (ci := 7) (k := 0) (w := .null) (by decide +kernel) (by decide +kernel) ?_
      refine b_gI (q := 51) (ci := 5) (k := 1) (w := .null) (by decide +kernel) (by decide +kernel) (fun c6 => ?_)
      refine b_icF (c := .ge) (o := 39) (t := 86) (y := 0) (w := .null) (by decide +kernel) cmp_ge (fun _ => ?_) (fun _ => ?_)
      · refine b_run [(50, .aload_n 0, 0, 0, .null)] (pc' := 51) (ls' := [some (.ref 1029), some (.int y1), some (.int y2)]) (st' := [.ref 1029]) (by decide +kernel) rfl ?_
        refine b_getC (b := 1001) (q := 9) (ci := 7) (k := 0) (w := .null) (by decide +kernel) (by decide +kernel) ?_
        refine b_run [(54, .aload_n 0, 0, 0, .null)] (pc' := 55) (ls' := [some (.ref 1029), some (.int y1), some (.int y2)]) (st' := [.ref 1029, .ref 1001]) (by decide +kernel) rfl ?_
        refine b_gI (q := 19) (ci := 7) (k := 2) (w := .null) (by decide +kernel) (by decide +kernel) (fun c7 => ?_)
        refine b_callI 92 2 [.ref 1001, .int c7] (rest := []) (by decide +kernel) rfl rfl rfl (go_O rfl (by decide +kernel) (by decide +kernel : isO 1001 5 = true)) rfl (s92 hv F 1001 c7 σ (by decide +kernel : isO 1001 5 = true)) (by decide) (fun c9 σ8 => ?_)
        refine b_run [(61, .bipush 60, 0, 0, .null)] (pc' := 63) (ls' := [some (.ref 1029), some (.int y1), some (.int y2)]) (st' := [.int 60, .int c9]) (by decide +kernel) rfl ?_
        refine b_icT (c := .eq) (o := 23) (t := 86) (y := 0) (w := .null) (by decide +kernel) cmp_eq (fun _ => ?_) (fun _ => ?_)
        · exact b_wk (wS (wS (wS w0))) (s119_86 hv F y1 y2 σ8)
        · refine b_run [(66, .aload_n 0, 0, 0, .null)] (pc' := 67) (ls' := [some (.ref 1029), some (.int y1), some (.int y2)]) (st' := [.ref 1029]) (by decide +kernel) rfl ?_
          refine b_getC (b := 1016) (q := 15) (ci := 7) (k := 1) (w := .null) (by decide +kernel) (by decide +kernel) ?_
          refine b_getC (b := 1025) (q := 161) (ci := 8) (k := 8) (w := .null) (by decide +kernel) (by decide +kernel) ?_
          refine b_run [(73, .aload_n 0, 0, 0, .null)] (pc' := 74) (ls' := [some (.ref 1029), some (.int y1), some (.int y2)]) (st' := [.ref 1029, .ref 1025]) (by decide +kernel) rfl ?_
          refine b_callI 117 1 [.ref 1029] (rest := [.ref 1025]) (by decide +kernel) rfl rfl rfl (go_O rfl (by decide +kernel) (by decide +kernel : isO 1029 7 = true)) rfl (s117 hv F σ8) (by decide) (fun c13 σ12 => ?_)
          refine b_callV 90 2 [.ref 1025, .int c13] (rest := []) (by decide +kernel) rfl rfl rfl (go_O rfl (by decide +kernel) (by decide +kernel : isO 1025 5 = true)) rfl (s90 hv F 1025 c13 σ12 (by decide +kernel : isO 1025 5 = true)) (by decide) (fun σ14 => ?_)
          refine b_run [(80, .iinc 2 1, 0, 0, .null), (83, .goto (-53), 30, 0, .null)] (pc' := 30) (ls' := [some (.ref 1029), some (.int y1), some (.int (y2 + 1))]) (st' := []) (by decide +kernel) rfl ?_
          exact b_wk (wS (wS (wS w0))) (ih y1 (y2 + 1) σ14)
      · exact b_wk (wS (wS (wS w0))) (s119_86 hv F y1 y2 σ)
    · exact b_wk (wS (wS (wS w0))) (s119_86 hv F y1 y2 σ)
/-- TreeStore$TextReader.readText(I)V -/
def f119 (F : Nat) (x1 : Int32) (σ : St) : Rs := lt (σ.1 1029 2) fun c1 => 
    lt (σ.1 1001 1) fun c2 => 
    if c1 < c2 then cV (f111 F σ) fun σ3 => f119_30 F F x1 0 σ3
    else oT 10 σ
theorem s119 {sc : aSc} (hv : vOk sc) (F : Nat) (x1 : Int32) (σ : St) : bEx sc 6 119 0 [some (.ref 1029), some (.int x1), none] [] σ (f119 F x1 σ) := by
  unfold f119
  refine b_run [(0, .aload_n 0, 0, 0, .null)] (pc' := 1) (ls' := [some (.ref 1029), some (.int x1), none]) (st' := [.ref 1029]) (by decide +kernel) rfl ?_
  refine b_gI (q := 19) (ci := 7) (k := 2) (w := .null) (by decide +kernel) (by decide +kernel) (fun c1 => ?_)
  refine b_run [(4, .aload_n 0, 0, 0, .null)] (pc' := 5) (ls' := [some (.ref 1029), some (.int x1), none]) (st' := [.ref 1029, .int c1]) (by decide +kernel) rfl ?_
  refine b_getC (b := 1001) (q := 9) (ci := 7) (k := 0) (w := .null) (by decide +kernel) (by decide +kernel) ?_
  refine b_gI (q := 51) (ci := 5) (k := 1) (w := .null) (by decide +kernel) (by decide +kernel) (fun c2 => ?_)
  refine b_icT (c := .lt) (o := 13) (t := 24) (y := 0) (w := .null) (by decide +kernel) cmp_lt (fun _ => ?_) (fun _ => ?_)
  · refine b_run [(24, .aload_n 0, 0, 0, .null)] (pc' := 25) (ls' := [some (.ref 1029), some (.int x1), none]) (st' := [.ref 1029]) (by decide +kernel) rfl ?_
    refine b_callV 111 1 [.ref 1029] (rest := []) (by decide +kernel) rfl rfl rfl (go_O rfl (by decide +kernel) (by decide +kernel : isO 1029 7 = true)) rfl (s111 hv F σ) (by decide) (fun σ3 => ?_)
    refine b_run [(28, .iconst 0, 0, 0, .null), (29, .istore_n 2, 0, 0, .null)] (pc' := 30) (ls' := [some (.ref 1029), some (.int x1), some (.int 0)]) (st' := []) (by decide +kernel) rfl ?_
    exact b_wk (wS (wS (wS w0))) (s119_30 hv F F x1 0 σ3)
  · exact b_thr (i := (.new 127, 10, 1, .null)) (by decide +kernel) rfl rfl rfl
/-- TreeStore$TextReader.readEndTag(II)V -/
def f120 (F : Nat) (x1 : Int32) (x2 : Int32) (σ : St) : Rs := cV (f110 F 60 σ) fun σ1 => 
    cV (f110 F 47 σ1) fun σ3 => 
    lt (σ3.1 1029 2) fun c5 => 
    cI (f113 F σ3) fun c7 σ6 => 
    cI (f97 F 1001 x1 x2 1001 c5 c7 σ6) fun c9 σ8 => 
    if c9 = 0 then oT 10 σ8
    else lt (σ8.1 1029 2) fun c10 => 
    lt (σ8.1 1001 1) fun c11 => cI (f93 F 1001 c10 c11 σ8) fun c13 σ12 => lt (uI σ12 1029 2 c13) fun σ14 => cV (f110 F 62 σ14) fun σ15 => oV σ15
theorem s120 {sc : aSc} (hv : vOk sc) (F : Nat) (x1 : Int32) (x2 : Int32) (σ : St) : bEx sc 3 120 0 [some (.ref 1029), some (.int x1), some (.int x2), none, none] [] σ (f120 F x1 x2 σ) := by
  unfold f120
  refine b_run [(0, .aload_n 0, 0, 0, .null), (1, .bipush 60, 0, 0, .null)] (pc' := 3) (ls' := [some (.ref 1029), some (.int x1), some (.int x2), none, none]) (st' := [.int 60, .ref 1029]) (by decide +kernel) rfl ?_
  refine b_callV 110 2 [.ref 1029, .int 60] (rest := []) (by decide +kernel) rfl rfl rfl (go_O rfl (by decide +kernel) (by decide +kernel : isO 1029 7 = true)) rfl (s110 hv F 60 σ) (by decide) (fun σ1 => ?_)
  refine b_run [(6, .aload_n 0, 0, 0, .null), (7, .bipush 47, 0, 0, .null)] (pc' := 9) (ls' := [some (.ref 1029), some (.int x1), some (.int x2), none, none]) (st' := [.int 47, .ref 1029]) (by decide +kernel) rfl ?_
  refine b_callV 110 2 [.ref 1029, .int 47] (rest := []) (by decide +kernel) rfl rfl rfl (go_O rfl (by decide +kernel) (by decide +kernel : isO 1029 7 = true)) rfl (s110 hv F 47 σ1) (by decide) (fun σ3 => ?_)
  refine b_run [(12, .aload_n 0, 0, 0, .null)] (pc' := 13) (ls' := [some (.ref 1029), some (.int x1), some (.int x2), none, none]) (st' := [.ref 1029]) (by decide +kernel) rfl ?_
  refine b_gI (q := 19) (ci := 7) (k := 2) (w := .null) (by decide +kernel) (by decide +kernel) (fun c5 => ?_)
  refine b_run [(16, .istore_n 3, 0, 0, .null), (17, .aload_n 0, 0, 0, .null)] (pc' := 18) (ls' := [some (.ref 1029), some (.int x1), some (.int x2), some (.int c5), none]) (st' := [.ref 1029]) (by decide +kernel) rfl ?_
  refine b_callI 113 1 [.ref 1029] (rest := []) (by decide +kernel) rfl rfl rfl (go_O rfl (by decide +kernel) (by decide +kernel : isO 1029 7 = true)) rfl (s113 hv F σ3) (by decide) (fun c7 σ6 => ?_)
  refine b_run [(21, .istore 4, 0, 0, .null), (23, .aload_n 0, 0, 0, .null)] (pc' := 24) (ls' := [some (.ref 1029), some (.int x1), some (.int x2), some (.int c5), some (.int c7)]) (st' := [.ref 1029]) (by decide +kernel) rfl ?_
  refine b_getC (b := 1001) (q := 9) (ci := 7) (k := 0) (w := .null) (by decide +kernel) (by decide +kernel) ?_
  refine b_run [(27, .iload_n 1, 0, 0, .null), (28, .iload_n 2, 0, 0, .null), (29, .aload_n 0, 0, 0, .null)] (pc' := 30) (ls' := [some (.ref 1029), some (.int x1), some (.int x2), some (.int c5), some (.int c7)]) (st' := [.ref 1029, .int x2, .int x1, .ref 1001]) (by decide +kernel) rfl ?_
  refine b_getC (b := 1001) (q := 9) (ci := 7) (k := 0) (w := .null) (by decide +kernel) (by decide +kernel) ?_
  refine b_run [(33, .iload_n 3, 0, 0, .null), (34, .iload 4, 0, 0, .null)] (pc' := 36) (ls' := [some (.ref 1029), some (.int x1), some (.int x2), some (.int c5), some (.int c7)]) (st' := [.int c7, .int c5, .ref 1001, .int x2, .int x1, .ref 1001]) (by decide +kernel) rfl ?_
  refine b_callI 97 6 [.ref 1001, .int x1, .int x2, .ref 1001, .int c5, .int c7] (rest := []) (by decide +kernel) rfl rfl rfl (go_O rfl (by decide +kernel) (by decide +kernel : isO 1001 5 = true)) rfl (s97 hv F 1001 x1 x2 1001 c5 c7 σ6 (by decide +kernel : isO 1001 5 = true) (by decide +kernel : isO 1001 5 = true)) (by decide) (fun c9 σ8 => ?_)
  refine b_izF (c := .ne) (o := 13) (t := 52) (y := 0) (w := .null) (by decide +kernel) cmp_ne (fun _ => ?_) (fun _ => ?_)
  · exact b_thr (i := (.new 127, 10, 1, .null)) (by decide +kernel) rfl rfl rfl
  · refine b_run [(52, .aload_n 0, 0, 0, .null), (53, .aload_n 0, 0, 0, .null)] (pc' := 54) (ls' := [some (.ref 1029), some (.int x1), some (.int x2), some (.int c5), some (.int c7)]) (st' := [.ref 1029, .ref 1029]) (by decide +kernel) rfl ?_
    refine b_getC (b := 1001) (q := 9) (ci := 7) (k := 0) (w := .null) (by decide +kernel) (by decide +kernel) ?_
    refine b_run [(57, .aload_n 0, 0, 0, .null)] (pc' := 58) (ls' := [some (.ref 1029), some (.int x1), some (.int x2), some (.int c5), some (.int c7)]) (st' := [.ref 1029, .ref 1001, .ref 1029]) (by decide +kernel) rfl ?_
    refine b_gI (q := 19) (ci := 7) (k := 2) (w := .null) (by decide +kernel) (by decide +kernel) (fun c10 => ?_)
    refine b_run [(61, .aload_n 0, 0, 0, .null)] (pc' := 62) (ls' := [some (.ref 1029), some (.int x1), some (.int x2), some (.int c5), some (.int c7)]) (st' := [.ref 1029, .int c10, .ref 1001, .ref 1029]) (by decide +kernel) rfl ?_
    refine b_getC (b := 1001) (q := 9) (ci := 7) (k := 0) (w := .null) (by decide +kernel) (by decide +kernel) ?_
    refine b_gI (q := 51) (ci := 5) (k := 1) (w := .null) (by decide +kernel) (by decide +kernel) (fun c11 => ?_)
    refine b_callI 93 3 [.ref 1001, .int c10, .int c11] (rest := [.ref 1029]) (by decide +kernel) rfl rfl rfl (go_O rfl (by decide +kernel) (by decide +kernel : isO 1001 5 = true)) rfl (s93 hv F 1001 c10 c11 σ8 (by decide +kernel : isO 1001 5 = true)) (by decide) (fun c13 σ12 => ?_)
    refine b_pI (q := 19) (ci := 7) (k := 2) (w := .null) (by decide +kernel) (by decide +kernel) (fit_I _) (fun σ14 => ?_)
    refine b_run [(74, .aload_n 0, 0, 0, .null), (75, .bipush 62, 0, 0, .null)] (pc' := 77) (ls' := [some (.ref 1029), some (.int x1), some (.int x2), some (.int c5), some (.int c7)]) (st' := [.int 62, .ref 1029]) (by decide +kernel) rfl ?_
    refine b_callV 110 2 [.ref 1029, .int 62] (rest := []) (by decide +kernel) rfl rfl rfl (go_O rfl (by decide +kernel) (by decide +kernel : isO 1029 7 = true)) rfl (s110 hv F 62 σ14) (by decide) (fun σ15 => ?_)
    exact b_ret0 (i := (.return_, 0, 0, .null)) (by decide +kernel) rfl rfl
