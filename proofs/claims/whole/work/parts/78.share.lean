/-! SHARE -/
theorem co_0 {fu : Nat} {T : St} {v : Int64} : f_X12_common_6 (fu + 1) T v 0 = some v := by
  unfold f_X12_common_6
  rw [if_pos (by rw [cmp_eq])]
theorem co_s {fu : Nat} {T : St} {v w : Int64} (h : w ≠ 0) : f_X12_common_6 (fu + 1) T v w = f_X12_common_6 fu T w (v - v / w * w) := by
  rw [f_X12_common_6, if_neg (by rw [cmp_eq]; exact h)]
  unfold remL
  rw [if_neg h]
  simp only [Option.bind_some]
theorem co_1 {fu : Nat} {T : St} {v : Int64} : f_X12_common_6 (fu + 2) T v 1 = some 1 := by
  rw [co_s (by decide), Int64.div_one, Int64.mul_one, Int64.sub_self, co_0]
theorem co_n {fu : Nat} {T : St} {n : Nat} (h1 : 1 ≤ n) (h2 : n < 2 ^ 31) : f_X12_common_6 (fu + 3) T 1 (lN n) = some 1 := by
  by_cases e : n = 1
  · rw [e, lN_one]
    exact co_1
  · have hne : lN n ≠ 0 := fun z => by
      rw [show (0 : Int64) = lN 0 from rfl, lN_eq h2 (by omega)] at z
      omega
    have d0 : (1 : Int64) / lN n = 0 := by
      rw [← Int64.toInt_inj, Int64.toInt_div, lN_toInt h2, show (1 : Int64).toInt = 1 from rfl, Int.tdiv_eq_zero_of_lt (by omega) (by omega)]
      rfl
    rw [co_s hne, d0, Int64.zero_mul, Int64.sub_zero]
    exact co_1
theorem M_common {T : St} {q : Nat} (h : q < 2 ^ 31) : f_X12_common T (if 0 < q then 1 else 0) (if 0 < q then lN q else 1) = some 1 := by
  unfold f_X12_common
  obtain ⟨fu, hf⟩ : ∃ fu, FU = fu + 3 := ⟨999997, rfl⟩
  rw [hf]
  by_cases c : 0 < q
  · rw [if_pos c, if_pos c]
    exact co_n (by omega) h
  · rw [if_neg c, if_neg c]
    exact co_1
theorem op_share {S : St} {xb k : Nat} (h : JJ S xb (k + 1)) (p q w : Int32) : ∃ r, f_X11_share S xb p q w = some r ∧ ∃ S2, f_X12_share S (xb + 22) p q w = some (r, S2) ∧ JJ S2 xb k := by
  obtain ⟨⟨g', j⟩, rm1, rm2⟩ := id h
  obtain ⟨nf, fa, np, pa, na, aa, ne, ea, il, nc, ca, rfl, b, c0, ct, cy, cf, cp, cn, ca', ce, cc, cl⟩ := j.op
  have x := b.2.2.1
  have m := b.2.2.2.1
  have p1 : mi S (xb + 22) 2 = nI np := cp.1
  have n24 := cp.2.1
  obtain ⟨H, hH, hl⟩ := cn
  rcases ixc p (n := np) (by omega) with ⟨i, hi, rfl⟩ | c1
  · have oi := cp.2.2.2 i hi
    have hk := oi.1
    have hi24 : i < 24 := by omega
    have e6 : mi S (pa i) 6 = Mi S (xb + 22) 9 i := oi.2.2.2.2.2.2.2.1
    have e9 : mi S (xb + 22 + 9) i = Mi S (xb + 22) 9 i := rfl
    rcases ixc q (n := np) (by omega) with ⟨o, ho, rfl⟩ | c2
    · have hko := (cp.2.2.2 o ho).1
      have ho24 : o < 24 := by omega
      unfold f_X11_share f_X12_share
      simp only [xV x, mV m, X_personAt x cp.2.2.1 hk hi, X_personAt x cp.2.2.1 hko ho, M_isPerson m p1 (by omega) hi, M_isPerson m p1 (by omega) ho, Option.bind_some, if_neg (show ¬ (some (pa i) = none) by simp), if_neg (show ¬ (some (pa o) = none) by simp), rcv_s hk, X_lives hk, e6, i01, mR_died m, mL_died m hi24, e9, M_isIn, lt_i, le_i, Int32.reduceToInt]
      rw [if_neg (show ¬ ((1 : Int32) = 0) by decide)]
      by_cases d : Mi S (xb + 22) 9 i = -1
      · rw [if_neg (fun z => z d), if_pos d]
        exact ⟨_, rfl, S, rfl, h.le⟩
      · rw [if_pos d, if_neg d, if_neg (show ¬ ((1 : Int32) = 0) by decide)]
        by_cases d1 : w.toInt < 0
        · rw [if_pos d1, if_pos (by omega)]
          exact ⟨_, rfl, S, rfl, h.le⟩
        · rw [if_neg d1]
          by_cases d2 : w.toInt ≤ 1
          · rw [if_pos d2, if_neg (by omega)]
            obtain ⟨A, a1, a2, a3⟩ := M_shares (p := i) cp.par n24 hH hi m p1 (fun c hc => ⟨rfl, rfl⟩)
            have mA := m.sw a2
            have hlt : prt (Mi S (xb + 22)) H np i o ≤ 2 ^ 24 := by
              unfold prt
              split
              · exact pt_lt cp.par n24 ho
              · exact Nat.zero_le _
            obtain ⟨v, hv⟩ : ∃ v, v = prt (Mi S (xb + 22)) H np i o := ⟨_, rfl⟩
            obtain ⟨q1, q2⟩ := a3 o ho
            rw [← hv] at hlt q1 q2
            rw [a1, X_parts cp hH hl hi d ho, ← hv]
            simp only [Option.bind_some, mR_above mA, mR_below mA, mL_above mA ho24, mL_below mA ho24, q1, q2, M_common (T := A) (q := v) (by omega), divL, if_neg (show ¬ ((1 : Int64) = 0) by decide), Int64.div_one, nI_l (show v < 2 ^ 31 by omega)]
            have ev : (nI v = 0) ↔ ¬ 0 < v := by
              rw [show (0 : Int32) = nI 0 from nI_0.symm, nI_eq (by omega) (by omega)]
              omega
            by_cases d3 : w = 0
            · rw [if_pos d3, if_pos d3]
              by_cases d4 : 0 < v
              · rw [if_neg (fun z => ev.mp z d4), if_pos d4]
                exact ⟨_, rfl, A, rfl, h.p3 a2⟩
              · rw [if_pos (ev.mpr d4), if_neg d4]
                exact ⟨_, rfl, A, rfl, h.p3 a2⟩
            · rw [if_neg d3, if_neg d3]
              by_cases d4 : 0 < v
              · rw [if_neg (fun z => ev.mp z d4), if_pos d4]
                exact ⟨_, rfl, A, rfl, h.p3 a2⟩
              · rw [if_pos (ev.mpr d4), if_neg d4]
                exact ⟨_, rfl, A, rfl, h.p3 a2⟩
          · rw [if_neg d2, if_pos (by omega)]
            exact ⟨_, rfl, S, rfl, h.le⟩
    · refine ⟨-1, ?_, S, ?_, h.le⟩
      · unfold f_X11_share
        simp only [xV x, X_personAt x cp.2.2.1 hk hi, X_personAt_n x cp.2.2.1 c2, Option.bind_some, if_neg (show ¬ (some (pa i) = none) by simp), if_true]
      · unfold f_X12_share
        simp only [mV m, M_isPerson m p1 (by omega) hi, M_isPerson_n m p1 (by omega) c2, Option.bind_some, if_true, mR_died m, mL_died m hi24]
        rw [if_neg (by decide)]
        split <;> rfl
  · refine ⟨-1, ?_, S, ?_, h.le⟩
    · unfold f_X11_share
      rcases ixc q (n := np) (by omega) with ⟨o, ho, rfl⟩ | c2
      · simp only [xV x, X_personAt_n x cp.2.2.1 c1, X_personAt x cp.2.2.1 (cp.2.2.2 o ho).1 ho, Option.bind_some, if_true]
      · simp only [xV x, X_personAt_n x cp.2.2.1 c1, X_personAt_n x cp.2.2.1 c2, Option.bind_some, if_true]
    · unfold f_X12_share
      simp only [mV m, M_isPerson_n m p1 (by omega) c1, Option.bind_some, if_true]
