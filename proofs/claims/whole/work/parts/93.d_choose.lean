theorem shl31 (a : Int64) : a <<< (Int32.toInt64 31 &&& 63) = a * 2147483648 := by
  apply Int64.toBitVec_inj.mp
  rw [Int64.toBitVec_shiftLeft, Int64.toBitVec_mul]
  show a.toBitVec <<< (31#64) = a.toBitVec * 2147483648#64
  rw [BitVec.shiftLeft_eq', BitVec.shiftLeft_eq_mul_twoPow]
  rfl
theorem shl20 (a : Int64) : a <<< (Int32.toInt64 20 &&& 63) = a * 1048576 := by
  apply Int64.toBitVec_inj.mp
  rw [Int64.toBitVec_shiftLeft, Int64.toBitVec_mul]
  show a.toBitVec <<< (20#64) = a.toBitVec * 1048576#64
  rw [BitVec.shiftLeft_eq', BitVec.shiftLeft_eq_mul_twoPow]
  rfl
theorem shl1_ok : (List.range 20).all (fun y => decide (((1 : Int64) <<< ((nI y).toInt64 &&& 63)).toInt = 2 ^ y)) = true := by decide +kernel
theorem shl1 {y : Nat} (h : y < 20) : ((1 : Int64) <<< ((nI y).toInt64 &&& 63)).toInt = 2 ^ y := of_decide_eq_true (List.all_eq_true.mp shl1_ok y (List.mem_range.mpr h))
theorem mulL_i {a b : Int64} (h1 : -9223372036854775808 ≤ a.toInt * b.toInt) (h2 : a.toInt * b.toInt < 9223372036854775808) : (a * b).toInt = a.toInt * b.toInt := by
  rw [Int64.toInt_mul]
  exact Int.bmod_eq_of_le (by omega) (by omega)
def wE (gv c : Int32) (y : Nat) : Int64 := (((Int32.toInt64 gv) <<< (Int32.toInt64 31 &&& 63)) - ((Int32.toInt64 c) <<< (Int32.toInt64 20 &&& 63))) - (1 <<< (Int32.toInt64 (nI y) &&& 63))
theorem p2_le {y : Nat} (h : y < 20) : (1 : Int) ≤ 2 ^ y ∧ (2 : Int) ^ y ≤ 524288 := by
  have : ∀ y, y < 20 → (1 : Int) ≤ 2 ^ y ∧ (2 : Int) ^ y ≤ 524288 := by decide
  exact this y h
theorem wE_i {gv c : Int32} {y : Nat} (hy : y < 20) (h1 : 0 ≤ gv.toInt ∧ gv.toInt ≤ 999999) (h2 : 0 ≤ c.toInt ∧ c.toInt ≤ 99) : (wE gv c y).toInt = gv.toInt * 2147483648 - c.toInt * 1048576 - 2 ^ y := by
  have hp := p2_le hy
  have e1 : (gv.toInt64 * 2147483648).toInt = gv.toInt * 2147483648 := by
    rw [mulL_i (by rw [Int32.toInt_toInt64]; simp only [Int64.reduceToInt]; omega) (by rw [Int32.toInt_toInt64]; simp only [Int64.reduceToInt]; omega), Int32.toInt_toInt64]
    rfl
  have e2 : (c.toInt64 * 1048576).toInt = c.toInt * 1048576 := by
    rw [mulL_i (by rw [Int32.toInt_toInt64]; simp only [Int64.reduceToInt]; omega) (by rw [Int32.toInt_toInt64]; simp only [Int64.reduceToInt]; omega), Int32.toInt_toInt64]
    rfl
  have e3 := shl1 hy
  unfold wE
  rw [shl31, shl20]
  have e4 : (gv.toInt64 * 2147483648 - c.toInt64 * 1048576).toInt = gv.toInt * 2147483648 - c.toInt * 1048576 := by rw [subL_i (by omega) (by omega), e1, e2]
  rw [subL_i (by rw [e4, e3]; omega) (by rw [e4, e3]; omega), e4, e3]
theorem insd_g {cl : List Nat} {e y i : Nat} (h : e ≤ cl.length) : (cl.take e ++ y :: cl.drop e).getD i 0 = if i < e then cl.getD i 0 else if i = e then y else cl.getD (i - 1) 0 := by
  have lt : (cl.take e).length = e := by rw [List.length_take]; omega
  by_cases c1 : i < e
  · rw [if_pos c1, getD_l _ _ _ (by omega), List.getD_eq_getElem?_getD, List.getD_eq_getElem?_getD, List.getElem?_take_of_lt c1]
  · rw [if_neg c1]
    have := getD_r (cl.take e) (y :: cl.drop e) 0 (i - e)
    rw [lt, show e + (i - e) = i by omega] at this
    rw [this]
    by_cases c2 : i = e
    · rw [if_pos c2, c2, Nat.sub_self]; rfl
    · rw [if_neg c2]
      obtain ⟨d, hd⟩ : ∃ d, i - e = d + 1 := ⟨i - e - 1, by omega⟩
      rw [hd]
      show (cl.drop e).getD d 0 = _
      rw [List.getD_eq_getElem?_getD, List.getD_eq_getElem?_getD, List.getElem?_drop, show e + d = i - 1 by omega]
theorem ag_go {F : Nat} {T A B : St} {x0 : Nat} {x1 x2 x3 x4 v e : Int32} (h : f_X1_addGap_23 F T x0 x1 x2 x3 x4 v = some (x0, x2, x3, x4, e, A)) (h2 : f_X1_addGap_86 A x0 x2 x3 x4 e = some B) : ((f_X1_addGap_23 F T x0 x1 x2 x3 x4 v).bind fun (x0, x2_23, x3_23, x4_23, x5_23, S_23) => f_X1_addGap_86 S_23 x0 x2_23 x3_23 x4_23 x5_23) = some B := by
  rw [h]
  exact h2
section Lay2
variable {xb : Nat} {p : Nat → Nat} {W : Nat → Int64}
theorem X_addGap {T : St} {cl : List Nat} {s y c : Nat} {gv : Int32} (hp : ∀ y, p y ≤ 99) (x : XOK T xb) (h3 : mi T (xb + 18) 3 = nI cl.length) (hl : cl.length < 20) (hs : s ≤ cl.length) (hr : ∀ i, i < cl.length → RW T xb p W i (cl.getD i 0)) (hpy : p y = c) (hWy : W y = wE gv (nI c) y) (hg : 0 < gv.toInt) : ∃ e T', f_X1_addGap T (xb + 18) (nI s) (nI y) gv (nI c) = some T' ∧ SW (PH xb) T T' ∧ mi T' (xb + 21) = mi T (xb + 21) ∧ s ≤ e ∧ e ≤ cl.length ∧ mi T' (xb + 18) 3 = nI (cl.length + 1) ∧ (∀ i, i < cl.length + 1 → RW T' xb p W i ((cl.take e ++ y :: cl.drop e).getD i 0)) ∧ (∀ i, e ≤ i → i < cl.length → c < p (cl.getD i 0)) ∧ (s < e → p (cl.getD (e - 1) 0) ≤ c) := by
  have hc : c ≤ 99 := by rw [← hpy]; exact hp y
  obtain ⟨e, A, g1, g2, g3, g4, g5, g6, g7⟩ := X_ag23 (x2 := nI y) (x3 := gv) (W := W) hl hc hp hs cl.length FU T hs (Nat.le_refl _) (by unfold FU; omega) x hr (fun i h1 h2 => by omega)
  have xA := x.sw g2
  have a3 : mi A (xb + 18) 3 = nI cl.length := by rw [(g2.2.2.2 (xb + 18) (by omega)).1]; exact h3
  -- the new one is put into its place
  have h86 : ∃ T', f_X1_addGap_86 A (xb + 18) (nI y) gv (nI c) (nI e) = some T' ∧ SW (PH xb) A T' ∧ mi T' (xb + 21) = mi A (xb + 21) ∧ mi T' (xb + 18) 3 = nI (cl.length + 1) ∧ (∀ i, mi T' (xb + 20) i = if i = e then nI c else mi A (xb + 20) i) ∧ ∀ i, ml T' (xb + 19) i = if i = e then W y else ml A (xb + 19) i := by
    unfold f_X1_addGap_86
    simp only [xR_cprice xA, xS_cprice xA (show e < 20 by omega), nrw15, Option.bind_some]
    obtain ⟨B, hB⟩ : ∃ B, B = setI A (xb + 20) e (nI c) := ⟨_, rfl⟩
    rw [← hB]
    have wB : SW (PH xb) A B := by rw [hB]; exact SW_I _ _ (by unfold PH; omega)
    have xB := xA.sw wB
    have hW' : (((Int32.toInt64 gv) <<< (Int32.toInt64 31 &&& 63)) - ((Int32.toInt64 (nI c)) <<< (Int32.toInt64 20 &&& 63))) - (1 <<< (Int32.toInt64 (nI y) &&& 63)) = W y := hWy.symm
    rw [hW']
    simp only [xR_cworth xB, xS_cworth xB (show e < 20 by omega), Option.bind_some]
    obtain ⟨C, hC⟩ : ∃ C, C = setL B (xb + 19) e (W y) := ⟨_, rfl⟩
    rw [← hC]
    have wC : SW (PH xb) A C := wB.tr (by rw [hC]; exact SW_L _ _ (by unfold PH; omega))
    have xC := xA.sw wC
    have c3 : mi C (xb + 18) 3 = nI cl.length := by
      rw [hC]
      show mi B (xb + 18) 3 = _
      rw [hB, mi_setI_i, if_neg (by omega)]
      exact a3
    simp only [getI_s (xK_chooser xC), c3, putI_s (xK_chooser xC), nI_1, Option.bind_some]
    refine ⟨_, rfl, wC.tr (SW_I _ _ (by unfold PH; omega)), ?_, ?_, fun i => ?_, fun i => ?_⟩
    · funext z
      rw [mi_setI_i, if_neg (by omega), hC]
      show mi B (xb + 21) z = _
      rw [hB, mi_setI_i, if_neg (by omega)]
    · rw [mi_setI_i, if_pos ⟨rfl, rfl⟩]
    · rw [mi_setI_i, if_neg (by omega), hC]
      show mi B (xb + 20) i = _
      rw [hB, mi_setI_i]
      by_cases q : i = e
      · rw [if_pos ⟨rfl, q⟩, if_pos q]
      · rw [if_neg (fun z => q z.2), if_neg q]
    · show ml C (xb + 19) i = _
      rw [hC, ml_setL_i]
      by_cases q : i = e
      · rw [if_pos ⟨rfl, q⟩, if_pos q]
      · rw [if_neg (fun z => q z.2), if_neg q, hB]
        rfl
  obtain ⟨T', t1, t2, t3, t4, t5, t6⟩ := h86
  have gPH : SW (PH xb) T A := g2.mono (fun z hz => by unfold PH; omega)
  refine ⟨e, T', ?_, gPH.tr t2, by rw [t3, (g2.2.2.2 (xb + 21) (by omega)).1], g3, g4, t4, fun i hi => ?_, fun i h1 h2 => (g6 i h1 h2).2, g7⟩
  · unfold f_X1_addGap
    rw [if_neg (by rw [le_i]; simp only [Int32.reduceToInt]; omega)]
    simp only [getI_s (xK_chooser x), h3, Option.bind_some, X_isWithin, i01, nI_toInt (show cl.length < 2 ^ 31 by omega), Int32.reduceToInt]
    rw [if_neg (by omega), ag_go g1 t1]
  · unfold RW
    rw [t5, t6, insd_g g4]
    by_cases c1 : i < e
    · have ne : ¬ i = e := by omega
      rw [if_pos c1, if_neg ne, if_neg ne]
      exact g5 i c1
    · rw [if_neg c1]
      by_cases c2 : i = e
      · rw [if_pos c2, if_pos c2, if_pos c2, hpy]
        exact ⟨rfl, rfl⟩
      · rw [if_neg c2, if_neg c2, if_neg c2]
        have := (g6 (i - 1) (by omega) (by omega)).1
        rw [show i - 1 + 1 = i by omega] at this
        exact this
end Lay2
