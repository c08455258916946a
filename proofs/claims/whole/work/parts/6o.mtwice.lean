/-! A NAME THAT IS THERE ALREADY, reference -/
def dupM (b : List Int32) (ds : List Md) (nm : List Int32) : Bool := ds.any (fun x => decide (stre b x.2.2.1 x.2.2.2.1 = nm))
section MTW
variable {F : Nat} {b : List Int32} {σ : St} {ds : List Md} {cs : List Int32} {l th : Int32}
theorem f165_28_s {p0 p e i n : Nat} {g : Bool} {x : Md} (hF : 500 ≤ F) (hb : b.length ≤ 120) (h : mRd σ b p0 ds cs) (hd : ds.length ≤ 30) (hpe : p ≤ e) (he : e ≤ b.length) (hx : ds[i]? = some x) (hxb : x.2.2.1 + x.2.2.2.1 ≤ b.length) : f165_28 F (n + 1) l th (Int32.ofNat p) (Int32.ofNat e) (b2i g) (Int32.ofNat i) σ = f165_28 F n l th (Int32.ofNat p) (Int32.ofNat e) (b2i (g || decide (stre b x.2.2.1 x.2.2.2.1 = stre b p (e - p)))) (Int32.ofNat (i + 1)) σ := by
  have hil := (List.getElem?_eq_some_iff.mp hx).1
  have g1 := h.2.2.2.2.2 i x hx
  have q1 := oN_n (show i < 2147483648 by omega)
  have i1 : inB (Int32.ofNat i) 31 := oN_rg (by omega) (by decide)
  rw [f165_28.eq_2, ltE, h.2.2.2.1, if_pos ((oN_lt (by omega) (by omega)).mpr hil)]
  cases g with
  | true =>
    rw [if_neg (show ¬ b2i true = 0 by decide), Bool.true_or]
    unfold f165_70 f165_75
    rw [oN_p1]
    rfl
  | false =>
    rw [if_pos b2i_f, if_pos i1, ltE, if_pos i1, ltE, q1, g1.2.2.1, g1.2.2.2.1, oN_sb hpe, f166_e hF h.1 hb (by omega) hxb, cIo, sam_eq (by omega) hxb, Bool.false_or]
    by_cases hq : stre b p (e - p) = stre b x.2.2.1 x.2.2.2.1
    · rw [decide_eq_true hq, decide_eq_true hq.symm, if_neg (show ¬ b2i true = 0 by decide)]
      unfold f165_70 f165_75
      rw [oN_p1]
      rfl
    · rw [decide_eq_false hq, decide_eq_false (fun hh => hq hh.symm), if_pos b2i_f]
      unfold f165_75
      rw [oN_p1]
      rfl
theorem f165_28_l {p0 p e : Nat} (hF : 500 ≤ F) (hb : b.length ≤ 120) (h : mRd σ b p0 ds cs) (hd : ds.length ≤ 30) (hpe : p ≤ e) (he : e ≤ b.length) (hds : ∀ (i : Nat) (x : Md), ds[i]? = some x → x.2.2.1 + x.2.2.2.1 ≤ b.length) : ∀ (m k i : Nat) (g : Bool), i + m = ds.length → f165_28 F (k + m) l th (Int32.ofNat p) (Int32.ofNat e) (b2i g) (Int32.ofNat i) σ = f165_28 F k l th (Int32.ofNat p) (Int32.ofNat e) (b2i (g || dupM b (ds.drop i) (stre b p (e - p)))) (Int32.ofNat ds.length) σ := by
  intro m
  induction m with
  | zero =>
    intro k i g hi
    rw [List.drop_eq_nil_of_le (by omega), show i = ds.length by omega, Nat.add_zero]
    unfold dupM
    rw [List.any_nil, Bool.or_false]
  | succ m ih =>
    intro k i g hi
    have hil : i < ds.length := by omega
    have hx : ds[i]? = some ds[i] := List.getElem?_eq_getElem hil
    rw [← Nat.add_assoc, f165_28_s hF hb h hd hpe he hx (hds i _ hx), ih k (i + 1) _ (by omega), List.drop_eq_getElem_cons hil]
    unfold dupM
    rw [List.any_cons, Bool.or_assoc]
end MTW
