/-! THE CLAIM OUT OF ONE WALK OF THE LAW'S BODY. Your part is whole_start (and what it stands on); all else here is the same for every law, but numbers. -/
def R_law : String := "TreeStoreLaw"
def lw_P (b : Addr) (xs : List Int32) (args : Array Value) (s : State) : Prop := args = #[.ref b] ∧ s.IntsAt b xs ∧ xs.length ≤ 1536 ∧ (Jvm.Cond.and given_1 narrow_1).before args s = true
def lw_Q (_ : Array Value) (s : State) (o : Outcome) (t : State) : Prop := o = .returned (some (.int 1)) ∧ Framed s o t [] 601024 7293033
def lw_Z (below : List Frame) (a : Array Value) (s : State) : State → Prop := fun t => ∃ o, t.status = .running ∧ Ended t below o ∧ lw_Q a s o t
/-- the law's own end, with 1 on the stack, nothing written that was there before, its room as the claim has it -/
theorem lw_ret {p : Program} {l : Launch} {e : Env} {s : State} {m : MethodId} {below : List Frame} {meth : Method} {c : Code} {b : Nat} (hx : p.tables.exec = Jvm.exec) (hb : c.code = code) (hr : meth.sig.returnType = ret) (hlocks : meth.locks = false) {pc : Nat} {H : Heap} {ls : Array Slot} (hdg : decode code pc = .ok (.ireturn, 1)) : W p l e room_1 s m #[Value.ref b] below meth c H [] 601024 7293033 (lw_Z below #[Value.ref b] s) (F0 m pc ls [.int 1]) := by
  intro T hT X
  obtain ⟨fs, hret, hrun, hended, hW, hframe⟩ := X.leave (v := some (.int 1)) (hlocks := hlocks) (fun h => by rw [hr] at h; cases h)
  have hmeth' : T.vm.method? m = some meth := X.method'
  refine ⟨T.setFrames fs, ?_, .returned (some (.int 1)), hrun, hended, rfl, ⟨_, rfl⟩, hW, hframe⟩
  jvm_step X.here [X.here.top, hx, hb, hdg, hmeth', hr, ret, narrow_b1]
  (try refine ⟨rfl, ?_⟩); (try refine ⟨rfl, ?_⟩)
  first | (intro acts; rw [hret _ acts rfl rfl rfl]) | rw [hret _ _ rfl rfl rfl]
  exact Steps.refl _
/-- what holds at the law's entry: the machine, the code, the tables' words (any of lw_tbl by 'hts w (by decide +kernel)'), the script of L ints xs at the cell b, what the Statement gives of the start (any of its parts by flat_of_before) -/
def lw_At (p : Program) (s : State) (m : MethodId) (meth : Method) (c : Code) (b L : Nat) (xs : Nat → Int32) : Prop :=
  p.tables.exec = Jvm.exec ∧ c.code = code ∧ meth.sig.returnType = ret ∧ c.maxLocals = 7 ∧ s.vm.findClass R_law = some m.cls ∧ (∀ w ∈ lw_tbl, w.before #[Value.ref b] s = true) ∧ va_X b L xs s s.heap ∧ b < s.heap.size ∧ meth.locks = false ∧ (Jvm.Cond.and given_1 narrow_1).before #[Value.ref b] s = true
/-! THE CLAIM OUT OF A RUN OF THE INTERPRETER -/
theorem sb_forget {s t : State} {L : List Loc} {k n k' n' : Nat} (h : s.sameButNew t L k n) (hL : ∀ q ∈ L, s.heap.size ≤ q.base) (hk : k ≤ k') (hn : n ≤ n') : s.sameButNew t [] k' n' := by
  obtain ⟨h1, h2, h3, h4, h5, h6⟩ := h
  refine ⟨h1, h2, by omega, h4, by omega, fun a c hc => ?_⟩
  obtain ⟨c', g1, g2, g3, g4⟩ := h6 a c hc
  refine ⟨c', g1, g2, g3, fun i _ => g4 i (fun hm => ?_)⟩
  have h7 := hL _ hm
  have h8 := (Array.getElem?_eq_some_iff.mp hc).1
  have h9 : s.heap.size ≤ a := h7
  omega
section LNK
variable {p : Program} {e : Env} {s : State} {m : MethodId} {below : List Frame} {meth : Method} {c : Code} {b L : Nat} {xs : Nat → Int32}
/-- what is left: the interpreter's run of the law comes to its end with true, for every script -/
def aGoal : Prop := ∀ (L : Nat) (xs : Nat → Int32) (v : Value), L ≤ 1536 → (v = .null ∨ v = .ref 999) → ∃ (n d : Nat) (A' : aH), aRun (L, xs, v) n d 2 0 (aEntry 7 [.ref 0]) [] [] = some (.returned (some (.int 1)), A') ∧ A'.length ≤ 601024 ∧ aSum A' ≤ 7293033 ∧ d + 9 ≤ 2048 ∧ 100 * (d + 2) ≤ 84000
theorem whole_start (hgo : aGoal) (l : Launch) (hL : L ≤ 1536) (C0 : lw_At p s m meth c b L xs) (htr : e.platform.stackTraces = false) (hFr : aFr 2 s m meth c) : W p l e room_1 s m #[Value.ref b] below meth c s.heap [] 0 0 (lw_Z below #[Value.ref b] s) (entryFrame m ([Value.ref b] : List Value).toArray 7) := by
  obtain ⟨hx, hb, hr, hml, hown, hts, hX, hbl, hlk, hgv⟩ := C0
  rw [Cond.before_and, Bool.and_eq_true] at hgv
  have hN := hgv.2
  obtain ⟨D, dA, hK⟩ := g_classes hts
  obtain ⟨ad, v, hgX, hinj, h0, hv⟩ := g_start hts hN hX hbl
  have hG : gG ad s.heap.size D dA (L, xs, v) s := ⟨fun w hw a => aWmv w hw (State.WarmedH.refl s) (hts w (List.mem_filter.mp hw).1), hK, hgX⟩
  obtain ⟨n, d, A', hrun, b1, b2, b3, b4⟩ := hgo L xs v hL hv
  have ev : ([Value.ref 0] : List Value).map (tV ad s.heap.size) = [Value.ref b] := by simp [tV, tA, h0]
  have hl := aEntry_lR (ad := ad) (sz := s.heap.size) (nL := 7) (vs := [.ref 0]) (by decide)
  rw [ev] at hl
  have k9 := aSound (l := l) hx htr hinj all_T all_Th all_Rt all_Mo n d 2 0 _ [] [] _ A' hrun room_1 s m #[Value.ref b] below meth c s.heap [] 0 0 _ hFr hG (g_exc hN) trivial ⟨fun k q hq => by simp [tW] at hq, fun k n f hq => by simp at hq⟩ ⟨Nat.le_refl _, fun _ _ _ => rfl, fun q hq => by cases hq⟩ hl rfl (Nat.le_refl _) (Nat.le_refl _)
    (by show A'.length ≤ 0 + 601024; omega) (by show aSum A' ≤ 0 + 7293033; omega) b3 b4
  rw [lg_entry_eq]
  refine wMono (fun t ht => ?_) k9
  obtain ⟨h1, h2, h3, ⟨Lc, h4, h5⟩, -, -⟩ := ht
  exact ⟨.returned (some (.int 1)), h1, h2, rfl, ⟨_, rfl⟩, h3, sb_forget h4 h5 (by omega) (by omega)⟩
end LNK
