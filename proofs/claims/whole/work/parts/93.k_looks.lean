theorem JJ.lk {S T U : St} {xb k : Nat} (h : JJ S xb (k + 1)) (w : SW (PH xb) S T) (u : SW (PT xb) T U) : JJ U xb k := by
  obtain ⟨⟨g, j⟩, -⟩ := id h
  have mT := j.1.2.2.2.1.sw w
  have e : ∀ o, o < 58 → Mi U (xb + 22) o = Mi S (xb + 22) o ∧ Ml U (xb + 22) o = Ml S (xb + 22) o := fun o ho => by
    have a := u.2.2.2 (xb + 22 + o) (by unfold PT; omega)
    have c := w.2.2.2 (xb + 22 + o) (by unfold PH; omega)
    exact ⟨a.1.trans c.1, a.2.trans c.2⟩
  have uP : SW (Pm xb) T U := u.mono (fun z hz => by unfold PT at hz; unfold Pm; omega)
  refine h.fin (j.ph w) w.cap (by rw [w.nx]; omega) (by rw [w.sl]; omega) (uP.fm mT) u.mr u.nx u.sl ⟨fun o ho => (e o ?_).1, fun f _ => congrFun (e 0 (by omega)).1 f⟩ ⟨(e 42 (by omega)).2, (e 54 (by omega)).2, (e 55 (by omega)).2⟩
  revert o
  decide
theorem op_looks {S : St} {xb k : Nat} (h : JJ S xb (k + 1)) (x1 x2 x3 x4 : Int32) : ∃ r S1, f_X11_looks S xb x1 x2 x3 x4 = some (r, S1) ∧ ∃ S2, f_X12_looks S1 (xb + 22) x1 x2 x3 x4 = some (r, S2) ∧ JJ S2 xb k := by
  obtain ⟨⟨g', j⟩, rm1, rm2⟩ := id h
  obtain ⟨nf, fa, np, pa, na, aa, ne, ea, il, nc, ca, rfl, b, c0, ct, cy, cf, cp, cn, ca', ce, cc, cl⟩ := j.op
  have x := b.2.2.1
  have m := b.2.2.2.1
  have f1 : mi S (xb + 22) 1 = nI nf := cf.1
  have n8 := cf.2.1
  rcases ixc x1 (n := nf) (by omega) with ⟨f, hf, rfl⟩ | d1
  · have kf := (cf.2.2.2.1 f hf).1
    rcases ixc x2 (n := 21) (by decide) with ⟨kk, hk, rfl⟩ | d2
    · rcases ixc x3 (n := 1000) (by decide) with ⟨q, hq, rfl⟩ | d3
      · obtain ⟨T, t1, t2, t3⟩ := X_choose j hf (show kk ≤ 20 by omega) (show q ≤ 999 by omega)
        have jT := j.ph t2
        have xT := jT.1.2.2.1
        have mT := jT.1.2.2.2.1
        have fT : f_X12_isFirm T (xb + 22) (nI f) = some 1 := M_isFirm mT (((congrFun (t2.2.2.2 (xb + 22) (by unfold PH; omega)).1 1)).trans f1) (by omega) hf
        have hX : f_X11_looks S xb (nI f) (nI kk) (nI q) x4 = (if x4 = 0 then (f_X1_chosenSet T (xb + 18)).bind fun v => some (v, T) else if x4 = 1 then (f_X1_chosenGain T (xb + 18)).bind fun v => some (v, T) else if x4 = 2 then (f_X1_chosenCost T (xb + 18)).bind fun v => some (v, T) else some (-1, T)) := by
          unfold f_X11_looks
          simp only [xV x, X_firmAt x cf.2.2.1 kf hf, Option.bind_some, if_neg (show ¬ (some (fa f) = none) by simp), X_isWithin, i01, nI_toInt (show kk < 2 ^ 31 by omega), nI_toInt (show q < 2 ^ 31 by omega), Int32.reduceToInt, xR_chooser x, xR_costs x, xV_chooser x, t1, xR_chooser xT, xV_chooser xT]
          rw [if_neg (by omega), if_neg (by omega)]
        rw [hX]
        by_cases hx : 0 ≤ x4.toInt ∧ x4.toInt ≤ 2
        · obtain ⟨G, C, D, U, u1, u2, u3, u4, u5, u6⟩ := M_looks (T := T) (M := Mi S (xb + 22)) (x4 := x4) (show kk ≤ 20 by omega) (show q ≤ 999 by omega) (show f < 8 by omega) (cf.gok hf) (pcv_le cy) (fun y hy => pcv_e cy hy) mT (t2.2.2.2 (xb + 22 + 56) (by unfold PH; omega)).1 (t2.2.2.2 (xb + 22 + 57) (by unfold PH; omega)).1 fT hx
          have h0 := KV_nn (w := wvv (Mi S (xb + 22)) f) (p := pcv (Mi S (xb + 22))) (fil (Mi S (xb + 22)) f 20) kk q
          rw [← t3] at h0
          rw [u4] at t3
          rw [X_cSet xT u1 u2 u3 t3 h0, X_cGain xT u1 u2 u3 t3 h0, X_cCost xT u1 u2 u3 t3 h0]
          simp only [Option.bind_some]
          by_cases c0 : x4 = 0
          · rw [if_pos c0]
            rw [if_pos c0] at u5
            exact ⟨_, _, rfl, U, u5, h.lk t2 u6⟩
          · rw [if_neg c0]
            rw [if_neg c0] at u5
            by_cases c1 : x4 = 1
            · rw [if_pos c1]
              rw [if_pos c1] at u5
              exact ⟨_, _, rfl, U, u5, h.lk t2 u6⟩
            · rw [if_neg c1]
              rw [if_neg c1] at u5
              have c2 : x4 = 2 := by
                have e0 : x4.toInt ≠ 0 := fun z => c0 ((eq_i x4 0).mpr z)
                have e1 : x4.toInt ≠ 1 := fun z => c1 ((eq_i x4 1).mpr z)
                refine (eq_i x4 2).mpr ?_
                show x4.toInt = 2
                omega
              rw [if_pos c2]
              exact ⟨_, _, rfl, U, u5, h.lk t2 u6⟩
        · have n0 : ¬ x4 = 0 := fun z => hx (by rw [z]; decide)
          have n1 : ¬ x4 = 1 := fun z => hx (by rw [z]; decide)
          have n2 : ¬ x4 = 2 := fun z => hx (by rw [z]; decide)
          rw [if_neg n0, if_neg n1, if_neg n2]
          refine ⟨_, _, rfl, T, ?_, h.lk t2 (SW.rf _ _)⟩
          unfold f_X12_looks
          simp only [mV mT, fT, M_isIn, i01, Option.bind_some, nI_toInt (show kk < 2 ^ 31 by omega), nI_toInt (show q < 2 ^ 31 by omega), Int32.reduceToInt]
          rw [if_neg (by decide), if_neg (by omega), if_neg (by omega), if_pos hx]
      · refine ⟨-1, S, ?_, S, ?_, h.le⟩
        · unfold f_X11_looks
          simp only [xV x, X_firmAt x cf.2.2.1 kf hf, Option.bind_some, if_neg (show ¬ (some (fa f) = none) by simp), X_isWithin, i01, nI_toInt (show kk < 2 ^ 31 by omega), Int32.reduceToInt]
          rw [if_neg (by omega), if_pos (by omega)]
        · unfold f_X12_looks
          simp only [mV m, M_isFirm m f1 (by omega) hf, M_isIn, i01, Option.bind_some, nI_toInt (show kk < 2 ^ 31 by omega), Int32.reduceToInt]
          rw [if_neg (by decide), if_neg (by omega), if_pos (by omega)]
    · refine ⟨-1, S, ?_, S, ?_, h.le⟩
      · unfold f_X11_looks
        simp only [xV x, X_firmAt x cf.2.2.1 kf hf, Option.bind_some, if_neg (show ¬ (some (fa f) = none) by simp), X_isWithin, i01, Int32.reduceToInt]
        rw [if_pos (by omega)]
      · unfold f_X12_looks
        simp only [mV m, M_isFirm m f1 (by omega) hf, M_isIn, i01, Option.bind_some, Int32.reduceToInt]
        rw [if_neg (by decide), if_pos (by omega)]
  · refine ⟨-1, S, ?_, S, ?_, h.le⟩
    · unfold f_X11_looks
      simp only [xV x, X_firmAt_n x cf.2.2.1 d1, Option.bind_some, if_true]
    · unfold f_X12_looks
      simp only [mV m, M_isFirm_n m f1 (by omega) d1, Option.bind_some, if_true]
