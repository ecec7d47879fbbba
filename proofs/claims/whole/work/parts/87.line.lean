/-! one proof line of the class -/
theorem ev1_base {d : Nat} {V : Nat → Int32} {q : Sps} {t t' : List Bool} {l : List Int32} (y : List Int32) (h : ty1 d q t = some t') (v : VT t l) : ev1 V q (l ++ y) = ev1 V q l ++ y := by
  unfold ev1
  rcases ty1_c h with ⟨e, -, -, -⟩ | ⟨e, -, -⟩ | ⟨e, u, rfl, -⟩ | ⟨e, u, rfl, -, -, -⟩ | ⟨e, u, rfl, -⟩ | ⟨e, u, rfl, -⟩ | ⟨e, u, rfl, -⟩
  · rw [if_pos e, if_pos e]; rfl
  · rw [if_neg (by omega), if_pos (by omega), if_neg (by omega), if_pos (by omega)]; rfl
  · rw [if_neg (by omega), if_neg (by omega), if_neg (by omega), if_neg (by omega), if_neg (by omega), if_neg (by omega), if_neg (by omega), if_neg (by omega)]
    match l, v with
    | c :: a :: r, w => rfl
  · rw [if_neg (by omega), if_neg (by omega), if_pos e, if_neg (by omega), if_neg (by omega), if_pos e]
    match l, v with
    | c :: r, w => rfl
  · rw [if_neg (by omega), if_neg (by omega), if_neg (by omega), if_neg (by omega), if_neg (by omega), if_neg (by omega), if_neg (by omega), if_neg (by omega)]
    match l, v with
    | c :: a :: r, w => rfl
  · rw [if_neg (by omega), if_neg (by omega), if_neg (by omega), if_pos e, if_neg (by omega), if_neg (by omega), if_neg (by omega), if_pos e]
    match l, v with
    | c :: r, w => rfl
  · rw [if_neg (by omega), if_neg (by omega), if_neg (by omega), if_neg (by omega), if_neg (by omega), if_neg (by omega), if_neg (by omega), if_neg (by omega)]
    match l, v with
    | c :: a :: r, w => rfl
theorem evs_base {d : Nat} {V : Nat → Int32} (y : List Int32) : ∀ {r : List Sps} {t t' : List Bool} {l : List Int32}, tyD d r t = some t' → VT t l → evs V r (l ++ y) = evs V r l ++ y
  | [], t, t', l, h, v => rfl
  | q :: r, t, t', l, h, v => by
    unfold tyD at h
    obtain ⟨t1, h1, h2⟩ := Option.bind_eq_some_iff.mp h
    show evs V r (ev1 V q (l ++ y)) = evs V r (ev1 V q l) ++ y
    rw [ev1_base y h1 v]
    exact evs_base y h2 (ev1_vt h1 v)
theorem g_end {T : St} {xb la p fu : Nat} {C : List Int32} {w : Int32} (x : XOK T xb) (h : XC T la C) (hp : p < C.length) (h0 : C.getD p 0 = -w) (hw : -w < 0 ∧ ¬ (9 : Int32) < w) : f_X9_greatest_12 (fu + 1) T (xb + 10) (some la) (nI p) = (f_X9_endLine T (xb + 10) w).bind fun S48 => f_X9_greatest_12 fu S48 (xb + 10) (some la) (nI (p + 1)) := by
  have hc := X_codeAt h hp
  rw [h0] at hc
  obtain ⟨a1, a2, a3, a4, a5, a6, a7⟩ := h
  rw [f_X9_greatest_12]
  unfold f_X6_codeLength
  simp only [rcv_s a1, getI_s a1, a4, hc, Option.bind_some, xV_scale x, nI_1, Int32.neg_neg]
  rw [if_neg (nI_ge (by omega) (by omega)), if_pos hw.1, if_neg hw.2]
