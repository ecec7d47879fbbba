theorem M_isIn (S : St) (v a b : Int32) : f_X12_isIn S v a b = some (if a.toInt ≤ v.toInt ∧ v.toInt ≤ b.toInt then 1 else 0) := by
  unfold f_X12_isIn
  simp only [lt_i]
  repeat' split
  all_goals first | rfl | (exfalso; omega)
theorem X_isWithin (S : St) (v b : Int32) : f_X11_isWithin S v b = some (if 0 ≤ v.toInt ∧ v.toInt < b.toInt then 1 else 0) := by
  unfold f_X11_isWithin
  simp only [lt_i, le_i, Int32.reduceToInt]
  repeat' split
  all_goals first | rfl | (exfalso; omega)
theorem X_days {S : St} {xb : Nat} (hx : kd S xb = 12) (h0 : 0 ≤ (mi S xb 0).toInt ∧ (mi S xb 0).toInt ≤ 19999) (n : Int32) : f_X11_days S xb n = some (if 1 ≤ n.toInt ∧ n.toInt ≤ 9999 ∧ (mi S xb 0).toInt + n.toInt ≤ 19999 then (mi S xb 0 + n, setI S xb 0 (mi S xb 0 + n)) else (-1, S)) := by
  have hx2 : kd (setI S xb 0 (mi S xb 0 + n)) xb = 12 := hx
  unfold f_X11_days
  simp only [getI_s hx, putI_s hx, Option.bind_some, getI_s hx2, mi_setI_i, and_self, if_true]
  by_cases c1 : n.toInt < 1
  · rw [if_pos (by rw [lt_i]; simpa using c1), if_neg (by omega)]
  · rw [if_neg (by rw [lt_i]; simpa using c1)]
    by_cases c2 : 9999 < n.toInt
    · rw [if_pos (by rw [lt_i]; simpa using c2), if_neg (by omega)]
    · rw [if_neg (by rw [lt_i]; simpa using c2)]
      have a1 : (mi S xb 0 + n).toInt = (mi S xb 0).toInt + n.toInt := add_i (by omega) (by omega)
      by_cases c3 : (mi S xb 0).toInt + n.toInt ≤ 19999
      · rw [if_pos (by rw [le_i, a1]; simpa using c3), if_pos (by omega)]
      · rw [if_neg (by rw [le_i, a1]; simpa using c3), if_neg (by omega)]
theorem M_days {S : St} {mb : Nat} (hm : MOK S mb) (h0 : 0 ≤ (mi S mb 0).toInt ∧ (mi S mb 0).toInt ≤ 19999) (n : Int32) : f_X12_days S mb n = some (if 1 ≤ n.toInt ∧ n.toInt ≤ 9999 ∧ (mi S mb 0).toInt + n.toInt ≤ 19999 then (mi S mb 0 + n, setI S mb 0 (mi S mb 0 + n)) else (-1, S)) := by
  have hm2 := hm.si mb 0 (mi S mb 0 + n)
  unfold f_X12_days
  simp only [mI hm, mP hm, Option.bind_some, mI hm2, mi_setI_i, and_self, if_true, M_isIn, Int32.reduceToInt]
  by_cases c1 : 1 ≤ n.toInt ∧ n.toInt ≤ 9999
  · rw [if_pos c1, if_neg (by decide)]
    have a2 : ((19999 : Int32) - n).toInt = 19999 - n.toInt := sub_i (by simp; omega) (by simp; omega)
    by_cases c3 : (mi S mb 0).toInt + n.toInt ≤ 19999
    · rw [if_pos (by rw [le_i, a2]; omega), if_pos (by omega)]
    · rw [if_neg (by rw [le_i, a2]; omega), if_neg (by omega)]
  · rw [if_neg c1, if_pos rfl, if_neg (by omega)]
