section STW
variable {p : Program} {l : Launch} {e : Env} {R : Room} {s : State} {m : MethodId} {args : Array Value} {below : List Frame} {meth : Method} {c : Code} {H : Heap} {locs : List Loc} {Q : State → Prop}
variable {ad : Nat → Nat} {sz a0 s0 : Nat} {D : va_G} {dA : Nat → ClassId} {sc : aSc} {lsA : Array Slot} {M pc pc' : Nat} {ls ls' : aL} {st st' : List Value} {A A1 : aH} {i : aI}
/-- ONE STEP of the interpreter is one of the machine -/
theorem aStep_W (hx : p.tables.exec = Jvm.exec) (hF : aFr M s m meth c) (hG : gG ad sz D dA sc s) (hinj : ∀ i j, 100 ≤ i → i < 112 → 100 ≤ j → j < 112 → ad i = ad j → i = j) (hH : tH D dA ad sz A H) (hS : va_S (fun q => sz ≤ q) s.heap H locs) (hl : lR ad sz lsA (aMx M) ls)
    (hsz : s.heap.size = sz + a0) (ha0 : a0 ≤ A.length) (hs0 : s0 ≤ aSum A) (hc1 : A1.length ≤ a0 + R.cells) (hs1 : aSum A1 ≤ s0 + R.slots) (hok : aOk M pc i) (hk : aKd i = 0) (h : aStep sc i pc ls st A = some (pc', ls', st', A1))
    (kk : aNx p l e R s m args below meth c Q ad sz a0 s0 D dA M pc' ls' st' A1) : W p l e R s m args below meth c H locs (A.length - a0) (aSum A - s0) Q (F0 m pc lsA (st.map (tV ad sz))) := by
  obtain ⟨ins, x, y, v⟩ := i
  obtain ⟨hdg, ho⟩ := hok
  obtain ⟨hb, hml, hr, hlk, hown, hnm, hex⟩ := hF
  cases ins
  case aconst_null => exact q_aconst_null hx hb hH hS hl hdg h kk
  case iconst => exact q_iconst hx hb hH hS hl hdg h kk
  case bipush => exact q_bipush hx hb hH hS hl hdg h kk
  case sipush => exact q_sipush hx hb hH hS hl hdg h kk
  case lconst => exact q_lconst hx hb hH hS hl hdg h kk
  case iload_n => exact q_iload_n hx hb hH hS hl hdg h kk
  case iload => exact q_iload hx hb hH hS hl hdg h kk
  case lload_n => exact q_lload_n hx hb hH hS hl hdg h kk
  case lload => exact q_lload hx hb hH hS hl hdg h kk
  case aload_n => exact q_aload_n hx hb hH hS hl hdg h kk
  case aload => exact q_aload hx hb hH hS hl hdg h kk
  case istore_n => exact q_istore_n hx hb hH hS hl hdg h kk
  case istore => exact q_istore hx hb hH hS hl hdg h kk
  case lstore_n => exact q_lstore_n hx hb hH hS hl hdg h kk
  case lstore => exact q_lstore hx hb hH hS hl hdg h kk
  case astore_n => exact q_astore_n hx hb hH hS hl hdg h kk
  case astore => exact q_astore hx hb hH hS hl hdg h kk
  case iinc => exact q_iinc hx hb hH hS hl hdg h kk
  case iadd => exact q_iadd hx hb hH hS hl hdg h kk
  case isub => exact q_isub hx hb hH hS hl hdg h kk
  case imul => exact q_imul hx hb hH hS hl hdg h kk
  case iand => exact q_iand hx hb hH hS hl hdg h kk
  case ior => exact q_ior hx hb hH hS hl hdg h kk
  case ixor => exact q_ixor hx hb hH hS hl hdg h kk
  case ishl => exact q_ishl hx hb hH hS hl hdg h kk
  case ishr => exact q_ishr hx hb hH hS hl hdg h kk
  case iushr => exact q_iushr hx hb hH hS hl hdg h kk
  case ladd => exact q_ladd hx hb hH hS hl hdg h kk
  case lsub => exact q_lsub hx hb hH hS hl hdg h kk
  case lmul => exact q_lmul hx hb hH hS hl hdg h kk
  case land => exact q_land hx hb hH hS hl hdg h kk
  case lor => exact q_lor hx hb hH hS hl hdg h kk
  case lxor => exact q_lxor hx hb hH hS hl hdg h kk
  case lshl => exact q_lshl hx hb hH hS hl hdg h kk
  case lshr => exact q_lshr hx hb hH hS hl hdg h kk
  case lushr => exact q_lushr hx hb hH hS hl hdg h kk
  case ineg => exact q_ineg hx hb hH hS hl hdg h kk
  case lneg => exact q_lneg hx hb hH hS hl hdg h kk
  case lcmp => exact q_lcmp hx hb hH hS hl hdg h kk
  case i2l => exact q_i2l hx hb hH hS hl hdg h kk
  case l2i => exact q_l2i hx hb hH hS hl hdg h kk
  case i2c => exact q_i2c hx hb hH hS hl hdg h kk
  case i2b => exact q_i2b hx hb hH hS hl hdg h kk
  case dup => exact q_dup hx hb hH hS hl hdg h kk
  case pop => exact q_pop hx hb hH hS hl hdg h kk
  case dup_x1 => exact q_dup_x1 hx hb hH hS hl hdg h kk
  case dup_x2 => exact q_dup_x2 hx hb hH hS hl hdg h kk
  case dup2 => exact q_dup2 hx hb hH hS hl hdg h kk
  case pop2 => exact q_pop2 hx hb hH hS hl hdg h kk
  case goto => exact q_goto hx hb hH hS hl ho hdg h kk
  case ifnull => exact q_ifnull hx hb hH hS hl ho hdg h kk
  case ifnonnull => exact q_ifnonnull hx hb hH hS hl ho hdg h kk
  case ifCond c0 off =>
    cases c0
    case eq => exact q_if_eq hx hb hH hS hl ho hdg h kk
    case ne => exact q_if_ne hx hb hH hS hl ho hdg h kk
    case lt => exact q_if_lt hx hb hH hS hl ho hdg h kk
    case ge => exact q_if_ge hx hb hH hS hl ho hdg h kk
    case gt => exact q_if_gt hx hb hH hS hl ho hdg h kk
    case le => exact q_if_le hx hb hH hS hl ho hdg h kk
  case if_icmp c0 off =>
    cases c0
    case eq => exact q_icmp_eq hx hb hH hS hl ho hdg h kk
    case ne => exact q_icmp_ne hx hb hH hS hl ho hdg h kk
    case lt => exact q_icmp_lt hx hb hH hS hl ho hdg h kk
    case ge => exact q_icmp_ge hx hb hH hS hl ho hdg h kk
    case gt => exact q_icmp_gt hx hb hH hS hl ho hdg h kk
    case le => exact q_icmp_le hx hb hH hS hl ho hdg h kk
  case if_acmp c0 off =>
    cases c0
    case eq => exact q_acmp_eq hx hb hown hG hH hS hl ho hinj hdg h kk
    case ne => exact q_acmp_ne hx hb hown hG hH hS hl ho hinj hdg h kk
  case tableswitch => exact q_tableswitch hx hb hH hS hl ho hdg h kk
  case ldc => exact q_ldc hx hb hown hG hH hS hl ho hdg h kk
  case ldc_w => exact q_ldc_w hx hb hown hG hH hS hl ho hdg h kk
  case ldc2_w => exact q_ldc2_w hx hb hown hG hH hS hl ho hdg h kk
  case getstatic => exact q_getstatic hx hb hown hG hH hS hl ho hdg h kk
  case getfield => exact q_getfield hx hb hown hG hH hS hl ho hdg h kk
  case putfield =>
    refine q_putfield hx hb hown hG hH hS hl ho.1 ?_ hdg h kk
    rcases ho.2 with h9 | ⟨h8, h9⟩
    · exact Or.inl h9
    · exact Or.inr ⟨hnm.trans h8, h9⟩
  case iaload => exact q_iaload hx hb hown hG hH hS hl hdg h kk
  case caload => exact q_caload hx hb hown hG hH hS hl hdg h kk
  case laload => exact q_laload hx hb hown hG hH hS hl hdg h kk
  case aaload => exact q_aaload hx hb hown hG hH hS hl hdg h kk
  case iastore => exact q_iastore hx hb hown hG hH hS hl hdg h kk
  case castore => exact q_castore hx hb hown hG hH hS hl hdg h kk
  case bastore => exact q_bastore hx hb hown hG hH hS hl hdg h kk
  case lastore => exact q_lastore hx hb hown hG hH hS hl hdg h kk
  case aastore => exact q_aastore hx hb hown hG hH hS hl hdg h kk
  case arraylength => exact q_arraylength hx hb hown hG hH hS hl hdg h kk
  case baload =>
    rcases ho with h9 | h9
    · exact q_baload hx hb hown hG hH hS hl h9 hdg h kk
    · exact q_baload4 hx hb hown hG hH hS hl h9 hdg h kk
  case new =>
    refine q_new hx hb hown hG hH hS hl ho (fun h9 => ?_) hsz ha0 hs0 hc1 hs1 hdg h kk
    simp [aKd] at hk
    exact hk h9
  case newarray => exact q_newarray hx hb hown hG hH hS hl ho hsz ha0 hs0 hc1 hs1 hdg h kk
  case anewarray => exact q_anewarray hx hb hown hG hH hS hl ho hsz ha0 hs0 hc1 hs1 hdg h kk
  all_goals exact absurd h (by simp [aStep])
theorem aSum_le {A B : aH} (h : A.length = B.length) (hs : aSum A = aSum B) : A.length ≤ B.length ∧ aSum A ≤ aSum B := ⟨Nat.le_of_eq h, Nat.le_of_eq hs⟩
theorem push_le {A : aH} {x : aE} : A.length ≤ (A ++ [x]).length ∧ aSum A ≤ aSum (A ++ [x]) := by
  rw [aSum_push]
  simp
theorem aPut_mono {a ci k : Nat} {v : Value} (h : aPut A a ci k v = some A1) : A.length ≤ A1.length ∧ aSum A ≤ aSum A1 := by
  unfold aPut at h
  split at h
  · cases h
  · split at h
    · rename_i q e1
      split at h
      · cases h
        exact aSum_le (by simp) (Eq.symm (aSum_set e1 (by rfl)))
      · cases h
    · cases h
theorem aWrI_mono {a t : Nat} {k x : Int32} (h : aWrI A a t k x = some A1) : A.length ≤ A1.length ∧ aSum A ≤ aSum A1 := by
  unfold aWrI at h
  split at h
  · cases h
  · split at h
    · rename_i q e1
      split at h
      · cases h
        exact aSum_le (by simp) (Eq.symm (aSum_set e1 (by rfl)))
      · cases h
    · cases h
theorem aWrL_mono {a : Nat} {k : Int32} {x : Int64} (h : aWrL A a k x = some A1) : A.length ≤ A1.length ∧ aSum A ≤ aSum A1 := by
  unfold aWrL at h
  split at h
  · cases h
  · split at h
    · rename_i q e1
      split at h
      · cases h
        exact aSum_le (by simp) (Eq.symm (aSum_set e1 (by rfl)))
      · cases h
    · cases h
theorem aWrR_mono {a w : Nat} {k : Int32} (h : aWrR A a k w = some A1) : A.length ≤ A1.length ∧ aSum A ≤ aSum A1 := by
  unfold aWrR at h
  split at h
  · cases h
  · split at h
    · rename_i q e1
      split at h
      · split at h
        · cases h
          exact aSum_le (by simp) (Eq.symm (aSum_set e1 (by rfl)))
        · cases h
      · cases h
    · cases h
theorem aCopy_mono {a0 a : Nat} {sp dp n : Int32} (h : aCopy A a0 sp a dp n = some A1) : A.length ≤ A1.length ∧ aSum A ≤ aSum A1 := by
  unfold aCopy at h
  split at h
  · cases h
  · split at h
    · split at h
      · rename_i e1
        split at h
        · cases h
          exact aSum_le (by simp) (Eq.symm (aSum_set e1 (by rfl)))
        · cases h
      · cases h
    · cases h
end STW
section SNE
variable {p : Program} {l : Launch} {e : Env} {R : Room} {s : State} {m : MethodId} {args : Array Value} {below : List Frame} {meth : Method} {c : Code} {H : Heap} {locs : List Loc} {Q : State → Prop}
variable {sc : aSc} {pc pc' : Nat} {ls ls' : aL} {st st' : List Value} {A A1 : aH} {i : aI}
theorem aStep_mono (h : aStep sc i pc ls st A = some (pc', ls', st', A1)) : A.length ≤ A1.length ∧ aSum A ≤ aSum A1 := by
  obtain ⟨ins, x, y, v⟩ := i
  cases ins <;> simp only [aStep, aLdI, aLdL, aLdA, aStI, aStL, aStA, aI2, aL2, aLS, aBr, aPush] at h
  all_goals (repeat' (split at h))
  all_goals first
    | (cases h; done)
    | (simp only [Option.some.injEq, Prod.mk.injEq] at h; obtain ⟨-, -, -, rfl⟩ := h; first | exact ⟨Nat.le_refl _, Nat.le_refl _⟩ | exact push_le | exact aPut_mono (by assumption) | exact aWrI_mono (by assumption) | exact aWrL_mono (by assumption) | exact aWrR_mono (by assumption))
end SNE
