/-! HELD, PAID, the whole office -/
def itv (M : MI) (L : ML) (a : Nat) : Int64 :=
  let s := (M 39 a).toNatClampNeg
  let d := (M 0 0 - M 40 a).toInt64
  let q := 360 * (M 25 s).toInt64
  let y := (M 24 s).toInt64 * (if ¬ d < q then q else d)
  L 42 a / 360000 * y + (L 42 a - L 42 a / 360000 * 360000) * y / 360000
def pdv (M : MI) (L : ML) (a : Nat) (l : List Nat) (v : Int64) : Int64 := l.foldl (fun v c => if M 50 c = nI a ∧ M 53 c = 1 then v + L 54 c else v) v
section Held
variable {S : St} {xb na nf np nc i : Nat} {M : MI} {L : ML} {fa pa aa ca : Nat → Nat}
theorem min64 {d y : Int32} (h0 : 0 ≤ y.toInt) (h1 : y.toInt ≤ 40) : (if y * 360 < d then y * 360 else d).toInt64 = if ¬ d.toInt64 < 360 * y.toInt64 then 360 * y.toInt64 else d.toInt64 := by
  have e1 : (y * 360).toInt = y.toInt * 360 := mul_i (by show _ ≤ y.toInt * 360; omega) (by show y.toInt * 360 < _; omega)
  have e2 : (360 * y.toInt64).toInt = 360 * y.toInt := by
    rw [Int64.toInt_mul, Int32.toInt_toInt64]
    show Int.bmod (360 * y.toInt) _ = _
    exact Int.bmod_eq_of_le (by omega) (by omega)
  have e3 : (y * 360).toInt64 = 360 * y.toInt64 := by
    rw [← Int64.toInt_inj, Int32.toInt_toInt64, e1, e2]; omega
  simp only [lt_i, e1, Int64.lt_iff_toInt_lt, Int32.toInt_toInt64, e2]
  by_cases c : y.toInt * 360 < d.toInt
  · rw [if_pos c, if_pos (by omega), e3]
  · rw [if_neg c]
    by_cases c2 : d.toInt < 360 * y.toInt
    · rw [if_neg (fun q => q c2)]
    · rw [if_pos c2, ← Int64.toInt_inj, Int32.toInt_toInt64, e2]; omega
theorem X_interest (x : XOK S xb) (cl : CL S xb M) (c0 : C0 S xb M) (ca' : CA S xb M L nf fa np pa na aa) (hi : i < na) (hh : M 39 i ≠ -1) : f_X11_interestOf S xb (some (aa i)) = some (itv M L i) := by
  obtain ⟨hk, -, -, -, -, -, -, -, -, -, -, e7, e8⟩ := ca'.2.2.2 i hi
  obtain ⟨⟨s, s4, es⟩, h8, h9, h10, h11, h12⟩ := e8.resolve_left (fun q => hh q.1)
  obtain ⟨la, hr, hl⟩ := cl s s4
  have l5 : mi S la 5 = M 24 s := hl.2.2.2.2.2.2.2.2.2.1
  have l6 : mi S la 6 = M 25 s := hl.2.2.2.2.2.2.2.2.2.2.1
  have l6a := hl.2.2.2.2.2.2.2.2.2.2.2.1
  have l6b := hl.2.2.2.2.2.2.2.2.2.2.2.2.1
  unfold f_X11_interestOf itv
  have hm : ∀ T a b, f_J9_min_7cf53 T a b = some (if b < a then b else a) := fun T a b => by
    unfold f_J9_min_7cf53
    split <;> rfl
  have d0 : ∀ w : Int64, divL w 360000 = some (w / 360000) := fun w => rfl
  have r0 : ∀ w : Int64, remL w 360000 = some (w - w / 360000 * 360000) := fun w => rfl
  simp only [getI_s hk, getL_s hk, e7, es, xV x, X_lawOf x s4 hr, Option.bind_some, getI_s hl.1, xI x, c0.1, l5, l6, h9, h8, hm, min64 l6a l6b, d0, r0]
  rw [nI_clamp (by omega)]
theorem M_interest {T : St} (m : MOK T (xb + 22)) {s : Nat} (h40 : i < 40) (s4 : s < 4) (es : Mi T (xb + 22) 39 i = nI s) : f_X12_interest T (xb + 22) (nI i) = some (itv (Mi T (xb + 22)) (Ml T (xb + 22)) i) := by
  unfold f_X12_interest f_X12_interest_53 itv
  have es' : mi T (xb + 22 + 39) i = nI s := es
  have d0 : ∀ w : Int64, divL w 360000 = some (w / 360000) := fun w => rfl
  have r0 : ∀ w : Int64, remL w 360000 = some (w - w / 360000 * 360000) := fun w => rfl
  simp only [mR_heldBy m, mL_heldBy m h40, es', mI m, mR_heldOn m, mL_heldOn m h40, mR_interestFor m, mL_interestFor m s4, mR_interestBy m, mL_interestBy m s4, mR_held m, mL_held m h40, d0, r0, Option.bind_some, cmp_neg]
  rw [es, nI_clamp (by omega)]
  show (if ¬ (Mi T (xb + 22) 0 0 - Mi T (xb + 22) 40 i).toInt64 < 360 * (Mi T (xb + 22) 25 s).toInt64 then _ else _) = _
  split <;> rfl
theorem X_paid5 (x : XOK S xb) (ca' : CA S xb M L nf fa np pa na aa) (cc : CC S xb M L np pa na aa nc ca) (hi : i < na) : ∀ (n t fu : Nat) (v : Int64), t + n = nc → n < fu → f_X11_paidOf_5 fu S xb (some (aa i)) v (nI t) = some (pdv M L i (List.range' t n) v) := by
  intro n
  induction n with
  | zero =>
    intro t fu v h1 h2
    obtain ⟨fu, rfl⟩ : ∃ k, fu = k + 1 := ⟨fu - 1, by omega⟩
    unfold f_X11_paidOf_5
    simp only [xR_claims x, xV_claims x, L_size cc.2.2.1, Option.bind_some]
    rw [if_pos (nI_le (by omega) (by have := cc.2.1; omega))]; rfl
  | succ n ih =>
    intro t fu v h1 h2
    obtain ⟨fu, rfl⟩ : ∃ k, fu = k + 1 := ⟨fu - 1, by omega⟩
    have ht : t < nc := by omega
    have n60 := cc.2.1
    obtain ⟨hk, -, -, ⟨a, a1, a2, a3, a4⟩, -, -, -, -, e4, e5, e6⟩ := cc.2.2.2.1 t ht
    unfold f_X11_paidOf_5
    simp only [xR_claims x, xV_claims x, L_size cc.2.2.1, Option.bind_some]
    rw [if_neg (nI_ge (by omega) (by omega))]
    simp only [L_get cc.2.2.1 ht, castO_s hk, getR_s hk, getI_s hk, getL_s hk, a3, e4, e5, Option.bind_some, nI_1, ih (t + 1) fu _ (show t + 1 + n = nc by omega) (show n < fu by omega)]
    have hs : ∀ w, pdv M L i (List.range' t (n + 1)) w = pdv M L i (List.range' (t + 1) n) (if M 50 t = nI i ∧ M 53 t = 1 then w + L 54 t else w) := fun w => by
      unfold pdv
      rw [List.range'_succ, List.foldl_cons]
    rw [hs]
    have n40 := ca'.2.1
    by_cases c1 : M 50 t = nI i
    · have : a = i := by rw [a2] at c1; exact (nI_eq (by omega) (by omega)).mp c1
      rw [if_pos (by rw [this])]
      by_cases c2 : M 53 t = 1
      · rw [if_pos c2, if_pos ⟨c1, c2⟩]
      · rw [if_neg c2, if_neg (fun q => c2 q.2)]
    · rw [if_neg (fun q => c1 (by rw [a2, ca'.inj a1 hi (Option.some.inj q)])), if_neg (fun q => c1 q.1)]
theorem M_paid5 {T : St} (m : MOK T (xb + 22)) (h69 : mi T (xb + 22) 69 = nI nc) (n60 : nc ≤ 60) : ∀ (n t fu : Nat) (v : Int64), t + n = nc → n < fu → f_X12_paidOf_5 fu T (xb + 22) (nI i) v (nI t) = some (pdv (Mi T (xb + 22)) (Ml T (xb + 22)) i (List.range' t n) v) := by
  intro n
  induction n with
  | zero =>
    intro t fu v h1 h2
    obtain ⟨fu, rfl⟩ : ∃ k, fu = k + 1 := ⟨fu - 1, by omega⟩
    unfold f_X12_paidOf_5
    simp only [mI m, h69, Option.bind_some]
    rw [if_pos (nI_le (by omega) (by omega))]; rfl
  | succ n ih =>
    intro t fu v h1 h2
    obtain ⟨fu, rfl⟩ : ∃ k, fu = k + 1 := ⟨fu - 1, by omega⟩
    have ht : t < 60 := by omega
    unfold f_X12_paidOf_5 f_X12_paidOf_47 f_X12_paidOf_48
    simp only [mI m, h69, Option.bind_some]
    rw [if_neg (nI_ge (by omega) (by omega))]
    simp only [mR_claimOn m, mL_claimOn m ht, mR_claimState m, mL_claimState m ht, mR_paid m, mL_paid m ht, Option.bind_some, nI_1, ih (t + 1) fu _ (show t + 1 + n = nc by omega) (show n < fu by omega)]
    have hs : ∀ w, pdv (Mi T (xb + 22)) (Ml T (xb + 22)) i (List.range' t (n + 1)) w = pdv (Mi T (xb + 22)) (Ml T (xb + 22)) i (List.range' (t + 1) n) (if Mi T (xb + 22) 50 t = nI i ∧ Mi T (xb + 22) 53 t = 1 then w + Ml T (xb + 22) 54 t else w) := fun w => by
      unfold pdv
      rw [List.range'_succ, List.foldl_cons]
    rw [hs, show v + 0 = v from Int64.add_zero v]
    show (if Mi T (xb + 22) 50 t = nI i then if Mi T (xb + 22) 53 t = 1 then some (pdv _ _ i _ (v + Ml T (xb + 22) 54 t)) else _ else _) = _
    by_cases c1 : Mi T (xb + 22) 50 t = nI i
    · rw [if_pos c1]
      by_cases c2 : Mi T (xb + 22) 53 t = 1
      · rw [if_pos c2, if_pos ⟨c1, c2⟩]
      · rw [if_neg c2, if_neg (fun q => c2 q.2)]
    · rw [if_neg c1, if_neg (fun q => c1 q.1)]
theorem X_paidOf (x : XOK S xb) (ca' : CA S xb M L nf fa np pa na aa) (cc : CC S xb M L np pa na aa nc ca) (hi : i < na) : f_X11_paidOf S xb (some (aa i)) = some (pdv M L i (List.range nc) 0) := by
  unfold f_X11_paidOf
  have := X_paid5 x ca' cc hi nc 0 FU 0 (by omega) (by unfold FU; have := cc.2.1; omega)
  rw [nI_0] at this
  rw [this, List.range_eq_range']
theorem M_paidOf {T : St} (m : MOK T (xb + 22)) (h69 : mi T (xb + 22) 69 = nI nc) (n60 : nc ≤ 60) : f_X12_paidOf T (xb + 22) (nI i) = some (pdv (Mi T (xb + 22)) (Ml T (xb + 22)) i (List.range nc) 0) := by
  unfold f_X12_paidOf
  have := M_paid5 (i := i) m h69 n60 nc 0 FU 0 (by omega) (by unfold FU; omega)
  rw [nI_0] at this
  rw [this, List.range_eq_range']
end Held
theorem op_held {S : St} {xb k : Nat} (h : JJ S xb (k + 1)) (a w : Int32) : ∃ r, f_X11_held S xb a w = some r ∧ f_X12_held S (xb + 22) a w = some r := by
  obtain ⟨⟨g', j⟩, rm1, rm2⟩ := id h
  obtain ⟨nf, fa, np, pa, na, aa, ne, ea, il, nc, ca, rfl, b, c0, ct, cy, cf, cp, cn, ca', ce, cc, cl⟩ := j.op
  have x := b.2.2.1
  have m := b.2.2.2.1
  have a1 : mi S (xb + 22) 3 = nI na := ca'.1
  have a2 := ca'.2.1
  unfold f_X11_held f_X12_held
  rcases ixc a (n := na) (by omega) with ⟨i, hi, rfl⟩ | c1
  · obtain ⟨hk, -, -, -, -, -, -, -, -, -, -, e7, e8⟩ := ca'.2.2.2 i hi
    have e7' : mi S (aa i) 7 = mi S (xb + 22 + 39) i := e7
    have h40 : i < 40 := by omega
    by_cases hh : Mi S (xb + 22) 39 i = -1
    · simp only [xV x, mV m, X_accountAt x ca'.2.2.1 hk hi, Option.bind_some, if_neg (show ¬ (some (aa i) = none) by simp), rcv_s hk, X_isHeld hk, M_isHeld m a1 a2 hi, e7, i10]
      rw [if_pos hh, if_pos hh]
      exact ⟨_, rfl, rfl⟩
    · obtain ⟨⟨s, s4, es⟩, h8, h9, h10, h11, h12⟩ := e8.resolve_left (fun q => hh q.1)
      have h8' : ml S (aa i) 8 = ml S (xb + 22 + 42) i := h8
      have h9' : mi S (aa i) 9 = mi S (xb + 22 + 40) i := h9
      have h10' : mi S (aa i) 10 = mi S (xb + 22 + 41) i := h10
      simp only [xV x, mV m, X_accountAt x ca'.2.2.1 hk hi, Option.bind_some, if_neg (show ¬ (some (aa i) = none) by simp), rcv_s hk, X_isHeld hk, M_isHeld m a1 a2 hi, e7, i10, getI_s hk, getL_s hk, X_interest x cl c0 ca' hi hh, X_paidOf x ca' cc hi, M_interest m h40 s4 es, M_paidOf m cc.1 cc.2.1, mR_heldBy m, mL_heldBy m h40, mR_held m, mL_held m h40, mR_heldOn m, mL_heldOn m h40, mR_late m, mL_late m h40, h8', h9', h10']
      rw [if_neg hh, if_neg hh, show Mi S (xb + 22) 39 i = mi S (xb + 22 + 39) i from rfl]
      repeat' split
      all_goals exact ⟨_, rfl, rfl⟩
  · simp only [xV x, mV m, X_accountAt_n x ca'.2.2.1 c1, M_isHeld_n m a1 (by omega) c1, Option.bind_some, if_true]
    exact ⟨_, rfl, rfl⟩
section Look
variable {S : St} {xb na nf np nc i : Nat} {M : MI} {L : ML} {fa pa aa ca : Nat → Nat}
theorem X_cntHeld (x : XOK S xb) (ca' : CA S xb M L nf fa np pa na aa) : ∀ (n t fu : Nat), t + n = na → n < fu → f_X11_countHeld_4 fu S xb (nI (cntB (fun z => decide (M 39 z ≠ -1)) t)) (nI t) = some (nI (cntB (fun z => decide (M 39 z ≠ -1)) na)) := by
  intro n
  induction n with
  | zero =>
    intro t fu h1 h2
    obtain ⟨fu, rfl⟩ : ∃ k, fu = k + 1 := ⟨fu - 1, by omega⟩
    unfold f_X11_countHeld_4
    simp only [xR_accounts x, xV_accounts x, L_size ca'.2.2.1, Option.bind_some]
    rw [if_pos (nI_le (by omega) (by have := ca'.2.1; omega)), show t = na by omega]
  | succ n ih =>
    intro t fu h1 h2
    obtain ⟨fu, rfl⟩ : ∃ k, fu = k + 1 := ⟨fu - 1, by omega⟩
    have ht : t < na := by omega
    have n40 := ca'.2.1
    obtain ⟨hk, -, -, -, -, -, -, -, -, -, -, e7, e8⟩ := ca'.2.2.2 t ht
    unfold f_X11_countHeld_4
    simp only [xR_accounts x, xV_accounts x, L_size ca'.2.2.1, Option.bind_some]
    rw [if_neg (nI_ge (by omega) (by omega))]
    simp only [L_get ca'.2.2.1 ht, castO_s hk, rcv_s hk, X_isHeld hk, e7, i10, Option.bind_some, nI_1]
    have hs : cntB (fun z => decide (M 39 z ≠ -1)) (t + 1) = cntB (fun z => decide (M 39 z ≠ -1)) t + (if decide (M 39 t ≠ -1) then 1 else 0) := rfl
    by_cases c : M 39 t = -1
    · rw [if_pos c]
      rw [if_neg (by simpa using c)] at hs
      have hs' : cntB (fun z => decide (M 39 z ≠ -1)) (t + 1) = cntB (fun z => decide (M 39 z ≠ -1)) t := hs
      rw [← hs']
      exact ih (t + 1) fu (by omega) (by omega)
    · rw [if_neg c]
      rw [if_pos (by simpa using c)] at hs
      rw [← hs]
      exact ih (t + 1) fu (by omega) (by omega)
theorem M_cntHeld {T : St} (m : MOK T (xb + 22)) (h3 : mi T (xb + 22) 3 = nI na) (n40 : na ≤ 40) : ∀ (n t fu : Nat), t + n = na → n < fu → f_X12_look_85 fu T (xb + 22) (lN (cntB (fun z => decide (Mi T (xb + 22) 39 z ≠ -1)) t)) (nI t) = some (lN (cntB (fun z => decide (Mi T (xb + 22) 39 z ≠ -1)) na)) := by
  intro n
  induction n with
  | zero =>
    intro t fu h1 h2
    obtain ⟨fu, rfl⟩ : ∃ k, fu = k + 1 := ⟨fu - 1, by omega⟩
    unfold f_X12_look_85
    simp only [mI m, h3, Option.bind_some]
    rw [if_pos (nI_le (by omega) (by omega)), show t = na by omega]
  | succ n ih =>
    intro t fu h1 h2
    obtain ⟨fu, rfl⟩ : ∃ k, fu = k + 1 := ⟨fu - 1, by omega⟩
    have ht : t < 40 := by omega
    unfold f_X12_look_85 f_X12_look_111
    simp only [mI m, h3, Option.bind_some]
    rw [if_neg (nI_ge (by omega) (by omega))]
    simp only [mR_heldBy m, mL_heldBy m ht, Option.bind_some, nI_1]
    have hs : cntB (fun z => decide (Mi T (xb + 22) 39 z ≠ -1)) (t + 1) = cntB (fun z => decide (Mi T (xb + 22) 39 z ≠ -1)) t + (if decide (Mi T (xb + 22) 39 t ≠ -1) then 1 else 0) := rfl
    show (if Mi T (xb + 22) 39 t = -1 then _ else _) = _
    by_cases c : Mi T (xb + 22) 39 t = -1
    · rw [if_pos c]
      rw [if_neg (by simpa using c)] at hs
      have hs' : cntB (fun z => decide (Mi T (xb + 22) 39 z ≠ -1)) (t + 1) = cntB (fun z => decide (Mi T (xb + 22) 39 z ≠ -1)) t := hs
      rw [show ∀ v : Int64, v + 0 = v from fun v => Int64.add_zero v, ← hs']
      exact ih (t + 1) fu (by omega) (by omega)
    · rw [if_neg c]
      rw [if_pos (by simpa using c)] at hs
      rw [lN_1, ← hs]
      exact ih (t + 1) fu (by omega) (by omega)
def hsv (M : MI) (L : ML) (l : List Nat) (v : Int64) : Int64 := l.foldl (fun v z => if M 39 z = -1 then v else v + L 42 z) v
theorem X_sumHeld (x : XOK S xb) (ca' : CA S xb M L nf fa np pa na aa) : ∀ (n t fu : Nat) (v : Int64), t + n = na → n < fu → f_X11_sumHeld_4 fu S xb v (nI t) = some (hsv M L (List.range' t n) v) := by
  intro n
  induction n with
  | zero =>
    intro t fu v h1 h2
    obtain ⟨fu, rfl⟩ : ∃ k, fu = k + 1 := ⟨fu - 1, by omega⟩
    unfold f_X11_sumHeld_4
    simp only [xR_accounts x, xV_accounts x, L_size ca'.2.2.1, Option.bind_some]
    rw [if_pos (nI_le (by omega) (by have := ca'.2.1; omega))]; rfl
  | succ n ih =>
    intro t fu v h1 h2
    obtain ⟨fu, rfl⟩ : ∃ k, fu = k + 1 := ⟨fu - 1, by omega⟩
    have ht : t < na := by omega
    have n40 := ca'.2.1
    obtain ⟨hk, -, -, -, -, -, -, -, -, -, -, e7, e8⟩ := ca'.2.2.2 t ht
    unfold f_X11_sumHeld_4
    simp only [xR_accounts x, xV_accounts x, L_size ca'.2.2.1, Option.bind_some]
    rw [if_neg (nI_ge (by omega) (by omega))]
    simp only [L_get ca'.2.2.1 ht, castO_s hk, getL_s hk, Option.bind_some, nI_1]
    rw [ih (t + 1) fu _ (by omega) (by omega)]
    have hs : hsv M L (List.range' t (n + 1)) v = hsv M L (List.range' (t + 1) n) (if M 39 t = -1 then v else v + L 42 t) := by
      unfold hsv
      rw [List.range'_succ, List.foldl_cons]
    rw [hs]
    rcases e8 with ⟨c, z⟩ | ⟨⟨s, s4, es⟩, z, -⟩
    · rw [if_pos c, z, show v + 0 = v from Int64.add_zero v]
    · have hn : M 39 t ≠ -1 := by rw [es, Ne, eq_i, nI_toInt (by omega)]; simp only [Int32.reduceToInt]; omega
      rw [if_neg hn, z]
theorem M_sumHeld {T : St} (m : MOK T (xb + 22)) (h3 : mi T (xb + 22) 3 = nI na) (n40 : na ≤ 40) : ∀ (n t fu : Nat) (v : Int64), t + n = na → n < fu → f_X12_look_124 fu T (xb + 22) v (nI t) = some (hsv (Mi T (xb + 22)) (Ml T (xb + 22)) (List.range' t n) v) := by
  intro n
  induction n with
  | zero =>
    intro t fu v h1 h2
    obtain ⟨fu, rfl⟩ : ∃ k, fu = k + 1 := ⟨fu - 1, by omega⟩
    unfold f_X12_look_124
    simp only [mI m, h3, Option.bind_some]
    rw [if_pos (nI_le (by omega) (by omega))]; rfl
  | succ n ih =>
    intro t fu v h1 h2
    obtain ⟨fu, rfl⟩ : ∃ k, fu = k + 1 := ⟨fu - 1, by omega⟩
    have ht : t < 40 := by omega
    unfold f_X12_look_124 f_X12_look_156
    simp only [mI m, h3, Option.bind_some]
    rw [if_neg (nI_ge (by omega) (by omega))]
    simp only [mR_heldBy m, mL_heldBy m ht, mR_held m, mL_held m ht, Option.bind_some, nI_1]
    rw [ih (t + 1) fu _ (by omega) (by omega), ih (t + 1) fu _ (by omega) (by omega)]
    have hs : hsv (Mi T (xb + 22)) (Ml T (xb + 22)) (List.range' t (n + 1)) v = hsv (Mi T (xb + 22)) (Ml T (xb + 22)) (List.range' (t + 1) n) (if Mi T (xb + 22) 39 t = -1 then v else v + Ml T (xb + 22) 42 t) := by
      unfold hsv
      rw [List.range'_succ, List.foldl_cons]
    rw [hs, show v + 0 = v from Int64.add_zero v]
    show (if Mi T (xb + 22) 39 t = -1 then _ else some (hsv _ _ _ (v + Ml T (xb + 22) 42 t))) = _
    split <;> rfl
def psv (M : MI) (L : ML) (nc : Nat) (l : List Nat) (v : Int64) : Int64 := l.foldl (fun v z => v + pdv M L z (List.range nc) 0) v
theorem X_sumPaid (x : XOK S xb) (ca' : CA S xb M L nf fa np pa na aa) (cc : CC S xb M L np pa na aa nc ca) : ∀ (n t fu : Nat) (v : Int64), t + n = na → n < fu → f_X11_sumPaid_4 fu S xb v (nI t) = some (psv M L nc (List.range' t n) v) := by
  intro n
  induction n with
  | zero =>
    intro t fu v h1 h2
    obtain ⟨fu, rfl⟩ : ∃ k, fu = k + 1 := ⟨fu - 1, by omega⟩
    unfold f_X11_sumPaid_4
    simp only [xR_accounts x, xV_accounts x, L_size ca'.2.2.1, Option.bind_some]
    rw [if_pos (nI_le (by omega) (by have := ca'.2.1; omega))]; rfl
  | succ n ih =>
    intro t fu v h1 h2
    obtain ⟨fu, rfl⟩ : ∃ k, fu = k + 1 := ⟨fu - 1, by omega⟩
    have ht : t < na := by omega
    have n40 := ca'.2.1
    have hk := (ca'.2.2.2 t ht).1
    unfold f_X11_sumPaid_4
    simp only [xR_accounts x, xV_accounts x, L_size ca'.2.2.1, Option.bind_some]
    rw [if_neg (nI_ge (by omega) (by omega))]
    simp only [L_get ca'.2.2.1 ht, castO_s hk, xV x, X_paidOf x ca' cc ht, Option.bind_some, nI_1]
    rw [ih (t + 1) fu _ (by omega) (by omega)]
    unfold psv
    rw [List.range'_succ, List.foldl_cons]
theorem M_sumPaid {T : St} (m : MOK T (xb + 22)) (h3 : mi T (xb + 22) 3 = nI na) (n40 : na ≤ 40) (h69 : mi T (xb + 22) 69 = nI nc) (n60 : nc ≤ 60) : ∀ (n t fu : Nat) (v : Int64), t + n = na → n < fu → f_X12_look_169 fu T (xb + 22) v (nI t) = some (psv (Mi T (xb + 22)) (Ml T (xb + 22)) nc (List.range' t n) v) := by
  intro n
  induction n with
  | zero =>
    intro t fu v h1 h2
    obtain ⟨fu, rfl⟩ : ∃ k, fu = k + 1 := ⟨fu - 1, by omega⟩
    unfold f_X12_look_169
    simp only [mI m, h3, Option.bind_some]
    rw [if_pos (nI_le (by omega) (by omega))]; rfl
  | succ n ih =>
    intro t fu v h1 h2
    obtain ⟨fu, rfl⟩ : ∃ k, fu = k + 1 := ⟨fu - 1, by omega⟩
    unfold f_X12_look_169
    simp only [mI m, h3, Option.bind_some]
    rw [if_neg (nI_ge (by omega) (by omega))]
    simp only [mV m, M_paidOf m h69 n60, Option.bind_some, nI_1]
    rw [ih (t + 1) fu _ (by omega) (by omega)]
    unfold psv
    rw [List.range'_succ, List.foldl_cons]
end Look
theorem op_look {S : St} {xb k : Nat} (h : JJ S xb (k + 1)) (w : Int32) : ∃ r, f_X11_look S xb w = some r ∧ f_X12_look S (xb + 22) w = some r := by
  obtain ⟨⟨g', j⟩, rm1, rm2⟩ := id h
  obtain ⟨nf, fa, np, pa, na, aa, ne, ea, il, nc, ca, rfl, b, c0, ct, cy, cf, cp, cn, ca', ce, cc, cl⟩ := j.op
  have x := b.2.2.1
  have m := b.2.2.2.1
  have n1 : mi S (xb + 22) 1 = nI nf := cf.1
  have n2 : mi S (xb + 22) 2 = nI np := cp.1
  have n3 : mi S (xb + 22) 3 = nI na := ca'.1
  have n4 : mi S (xb + 22) 4 = nI ne := ce.2.1
  have n5 : mi S xb 5 = nI ne := ce.1
  have n69 : mi S (xb + 22) 69 = nI nc := cc.1
  have e0 : mi S xb 0 = mi S (xb + 22) 0 := c0.1
  have n40 := ca'.2.1
  have n60 := cc.2.1
  have g1 := X_cntHeld x ca' na 0 FU (by omega) (by unfold FU; omega)
  have g2 := M_cntHeld m n3 n40 na 0 FU (by omega) (by unfold FU; omega)
  have g3 := X_sumHeld x ca' na 0 FU 0 (by omega) (by unfold FU; omega)
  have g4 := M_sumHeld m n3 n40 na 0 FU 0 (by omega) (by unfold FU; omega)
  have g5 := X_sumPaid x ca' cc na 0 FU 0 (by omega) (by unfold FU; omega)
  have g6 := M_sumPaid m n3 n40 n69 n60 na 0 FU 0 (by omega) (by unfold FU; omega)
  rw [show cntB (fun z => decide (Mi S (xb + 22) 39 z ≠ -1)) 0 = 0 from rfl, nI_0] at g1
  rw [show cntB (fun z => decide (Mi S (xb + 22) 39 z ≠ -1)) 0 = 0 from rfl, nI_0, show lN 0 = 0 from rfl] at g2
  rw [nI_0] at g3 g4 g5 g6
  have hcl := cntB_le (fun z => decide (Mi S (xb + 22) 39 z ≠ -1)) na
  unfold f_X11_look f_X12_look f_X11_countHeld f_X11_sumHeld f_X11_sumPaid
  simp only [xI x, mI m, n1, n2, n3, n4, n5, n69, e0, xV x, xR_firms x, xV_firms x, L_size cf.2.2.1, xR_persons x, xV_persons x, L_size cp.2.2.1, xR_accounts x, xV_accounts x, L_size ca'.2.2.1, xR_claims x, xV_claims x, L_size cc.2.2.1, g1, g2, g3, g4, g5, g6, Option.bind_some, nI_l (show cntB (fun z => decide (Mi S (xb + 22) 39 z ≠ -1)) na < 2 ^ 31 by omega)]
  repeat' split
  all_goals exact ⟨_, rfl, rfl⟩
