/-! SUMS: what an entry does to a sum -/
def gdv (w b : Int64) : Int64 := if w < 0 ∧ w / b * b ≠ w then w / b - 1 else w / b
def chg (M : MI) (x : Nat) (v : Int64) : Int64 := if M 15 x = 6 then gdv (v * (M 17 x).toInt64) (M 18 x).toInt64 else v + (M 17 x).toInt64
theorem cmp_neg (x y : Int64) : ((0 : Int32) ≤ lg_cmp x y) = ¬ x < y := by
  unfold lg_cmp
  simp only [Int64.lt_iff_toInt_lt, GT.gt, eq_iff_iff, ← Int64.toInt_inj]
  repeat' split
  · simp only [Int32.reduceLE, true_iff]; omega
  · simp only [Int32.reduceLE, true_iff]; omega
  · simp only [Int32.reduceLE, false_iff]; omega
theorem cmp_eq (x y : Int64) : (lg_cmp x y = 0) = (x = y) := by
  unfold lg_cmp
  simp only [Int64.lt_iff_toInt_lt, GT.gt, eq_iff_iff]
  repeat' split
  · exact ⟨fun h => absurd h (by decide), fun h => by subst h; omega⟩
  · simp only [true_iff]; assumption
  · rename_i h1 h2
    exact ⟨fun h => absurd h (by decide), fun h => absurd h h2⟩
theorem cmp_lt (x y : Int64) : (lg_cmp x y < 0) = (x < y) := by
  unfold lg_cmp
  simp only [Int64.lt_iff_toInt_lt, GT.gt, eq_iff_iff, ← Int64.toInt_inj]
  repeat' split
  · simp only [Int32.reduceLT, false_iff]; omega
  · simp only [Int32.reduceLT, false_iff]; omega
  · simp only [Int32.reduceLT, true_iff]; omega
theorem cmp_gt (x y : Int64) : ((0 : Int32) < lg_cmp x y) = (y < x) := by
  unfold lg_cmp
  simp only [Int64.lt_iff_toInt_lt, GT.gt, eq_iff_iff, ← Int64.toInt_inj]
  repeat' split
  · simp only [Int32.reduceLT, true_iff]; omega
  · simp only [Int32.reduceLT, false_iff]; omega
  · simp only [Int32.reduceLT, false_iff]; omega
theorem neg_msb (x : Int64) : x < 0 ↔ x.toBitVec.msb = true := by
  rw [Int64.lt_iff_toInt_lt, BitVec.msb_eq_toInt]
  show x.toInt < 0 ↔ decide (x.toBitVec.toInt < 0) = true
  rw [decide_eq_true_eq]
  rfl
theorem xor_neg {x y : Int64} (hy : 0 < y) : (x ^^^ y < 0) ↔ x < 0 := by
  rw [neg_msb, neg_msb, Int64.toBitVec_xor, BitVec.msb_xor]
  have : y.toBitVec.msb = false := by
    cases h : y.toBitVec.msb
    · rfl
    · have := (neg_msb y).mpr h
      rw [Int64.lt_iff_toInt_lt] at this hy
      omega
  rw [this]; simp
theorem fdiv {S : St} {x y : Int64} (hy : 0 < y) : f_J9_floorDiv_f86c9 S x y = some (gdv x y) := by
  have y0 : y ≠ 0 := fun e => by rw [e] at hy; exact absurd hy (by decide)
  unfold f_J9_floorDiv_f86c9 divL gdv
  rw [if_neg y0]
  simp only [Option.bind_some, cmp_neg, cmp_eq, xor_neg hy]
  by_cases c1 : x < 0
  · rw [if_neg (fun q => q c1)]
    by_cases c2 : x / y * y = x
    · rw [if_pos c2, if_neg (fun q => q.2 c2)]
    · rw [if_neg c2, if_pos ⟨c1, c2⟩]
  · rw [if_pos c1, if_neg (fun q => c1 q.1)]
theorem i64_pos {v : Int32} (h : 1 ≤ v.toInt) : 0 < v.toInt64 := by
  rw [Int64.lt_iff_toInt_lt, Int32.toInt_toInt64]
  show (0 : Int) < _
  omega
theorem X_changed {S : St} {xb : Nat} {M : MI} {ea : Nat → Nat} {x : Nat} (h : EO S xb M ea x) (v : Int64) : f_X3_changed S (ea x) v = some (chg M x v) := by
  obtain ⟨hk, -, -, -, h5, -⟩ := h
  unfold f_X3_changed f_X3_changed_26 chg
  simp only [getI_s hk, Option.bind_some]
  rcases h5 with ⟨e1, e2, e3, e4, e5, e6, e7, e8, e9⟩ | ⟨⟨s, s1, s2⟩, e2, e3, e4, e5⟩
  · rw [e3, e4, e5, if_pos e1, if_neg (by rw [le_i]; simp only [Int32.reduceToInt]; omega), fdiv (i64_pos e8)]
    simp
  · have hs : M 15 x ≠ 6 := by rw [s2, Ne, eq_i, nI_toInt (by omega)]; simp only [Int32.reduceToInt]; omega
    rw [e3, e4, e5, if_neg hs, if_neg (by decide), show (1 : Int32).toInt64 = 1 from rfl, fdiv (by decide)]
    have hg : gdv (v * 1) 1 = v := by
      unfold gdv
      simp
    rw [hg]; rfl
