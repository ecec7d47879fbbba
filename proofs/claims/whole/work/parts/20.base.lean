/-! SEMANTICS, the base: what the primitives do -/
theorem nx_setI (S : St) (a k : Nat) (v : Int32) : nx (setI S a k v) = nx S := rfl
theorem sl_setI (S : St) (a k : Nat) (v : Int32) : sl (setI S a k v) = sl S := rfl
theorem cap_setI (S : St) (a k : Nat) (v : Int32) : cap (setI S a k v) = cap S := rfl
theorem emp_setI (S : St) (a k : Nat) (v : Int32) : emp (setI S a k v) = emp S := rfl
theorem lit_setI (S : St) (a k : Nat) (v : Int32) : lit (setI S a k v) = lit S := rfl
theorem kd_setI (S : St) (a k : Nat) (v : Int32) : kd (setI S a k v) = kd S := rfl
theorem ln_setI (S : St) (a k : Nat) (v : Int32) : ln (setI S a k v) = ln S := rfl
theorem ml_setI_ (S : St) (a k : Nat) (v : Int32) : ml (setI S a k v) = ml S := rfl
theorem mr_setI_ (S : St) (a k : Nat) (v : Int32) : mr (setI S a k v) = mr S := rfl
theorem mi_setI_i (S : St) (a k : Nat) (v : Int32) (b j : Nat) : mi (setI S a k v) b j = if b = a ∧ j = k then v else mi S b j := rfl
theorem getI_s {S : St} {a ci : Nat} (h : kd S a = ci) (k : Nat) : getI S (some a) ci k = some (mi S a k) := if_pos h
theorem putI_s {S : St} {a ci : Nat} (h : kd S a = ci) (k : Nat) (v : Int32) : putI S (some a) ci k v = some (setI S a k v) := if_pos h
theorem nx_setL (S : St) (a k : Nat) (v : Int64) : nx (setL S a k v) = nx S := rfl
theorem sl_setL (S : St) (a k : Nat) (v : Int64) : sl (setL S a k v) = sl S := rfl
theorem cap_setL (S : St) (a k : Nat) (v : Int64) : cap (setL S a k v) = cap S := rfl
theorem emp_setL (S : St) (a k : Nat) (v : Int64) : emp (setL S a k v) = emp S := rfl
theorem lit_setL (S : St) (a k : Nat) (v : Int64) : lit (setL S a k v) = lit S := rfl
theorem kd_setL (S : St) (a k : Nat) (v : Int64) : kd (setL S a k v) = kd S := rfl
theorem ln_setL (S : St) (a k : Nat) (v : Int64) : ln (setL S a k v) = ln S := rfl
theorem mi_setL_ (S : St) (a k : Nat) (v : Int64) : mi (setL S a k v) = mi S := rfl
theorem mr_setL_ (S : St) (a k : Nat) (v : Int64) : mr (setL S a k v) = mr S := rfl
theorem ml_setL_i (S : St) (a k : Nat) (v : Int64) (b j : Nat) : ml (setL S a k v) b j = if b = a ∧ j = k then v else ml S b j := rfl
theorem getL_s {S : St} {a ci : Nat} (h : kd S a = ci) (k : Nat) : getL S (some a) ci k = some (ml S a k) := if_pos h
theorem putL_s {S : St} {a ci : Nat} (h : kd S a = ci) (k : Nat) (v : Int64) : putL S (some a) ci k v = some (setL S a k v) := if_pos h
theorem nx_setR (S : St) (a k : Nat) (v : Option Nat) : nx (setR S a k v) = nx S := rfl
theorem sl_setR (S : St) (a k : Nat) (v : Option Nat) : sl (setR S a k v) = sl S := rfl
theorem cap_setR (S : St) (a k : Nat) (v : Option Nat) : cap (setR S a k v) = cap S := rfl
theorem emp_setR (S : St) (a k : Nat) (v : Option Nat) : emp (setR S a k v) = emp S := rfl
theorem lit_setR (S : St) (a k : Nat) (v : Option Nat) : lit (setR S a k v) = lit S := rfl
theorem kd_setR (S : St) (a k : Nat) (v : Option Nat) : kd (setR S a k v) = kd S := rfl
theorem ln_setR (S : St) (a k : Nat) (v : Option Nat) : ln (setR S a k v) = ln S := rfl
theorem mi_setR_ (S : St) (a k : Nat) (v : Option Nat) : mi (setR S a k v) = mi S := rfl
theorem ml_setR_ (S : St) (a k : Nat) (v : Option Nat) : ml (setR S a k v) = ml S := rfl
theorem mr_setR_i (S : St) (a k : Nat) (v : Option Nat) (b j : Nat) : mr (setR S a k v) b j = if b = a ∧ j = k then v else mr S b j := rfl
theorem getR_s {S : St} {a ci : Nat} (h : kd S a = ci) (k : Nat) : getR S (some a) ci k = some (mr S a k) := if_pos h
theorem putR_s {S : St} {a ci : Nat} (h : kd S a = ci) (k : Nat) (v : Option Nat) : putR S (some a) ci k v = some (setR S a k v) := if_pos h
theorem rcv_s {S : St} {a ci : Nat} (h : kd S a = ci) : rcv S (some a) ci = some a := if_pos h
theorem castO_s {S : St} {a ci : Nat} (h : kd S a = ci) : castO S (some a) ci = some (some a) := if_pos h
theorem castO_n {S : St} {ci : Nat} : castO S none ci = some none := rfl
theorem inB_nI {j n : Nat} (h : j < n) (hn : n < 2 ^ 31) : inB (nI j) n = true := by
  rw [inB_iff]
  exact nI_in h hn
theorem ldI_s {S : St} {a ck j n : Nat} (h : kd S a = ck) (hl : ln S a = n) (hj : j < n) (hn : n < 2 ^ 31) : ldI S (some a) ck (nI j) = some (mi S a j) := by
  unfold ldI
  simp only [h, hl, inB_nI hj hn, and_self, if_true, nI_clamp (Nat.lt_trans hj hn)]
theorem ldL_s {S : St} {a j n : Nat} (h : kd S a = 16) (hl : ln S a = n) (hj : j < n) (hn : n < 2 ^ 31) : ldL S (some a) (nI j) = some (ml S a j) := by
  unfold ldL
  simp only [h, hl, inB_nI hj hn, and_self, if_true, nI_clamp (Nat.lt_trans hj hn)]
theorem ldR_s {S : St} {a ck j n : Nat} (h : kd S a = ck) (hl : ln S a = n) (hj : j < n) (hn : n < 2 ^ 31) : ldR S (some a) ck (nI j) = some (mr S a j) := by
  unfold ldR
  simp only [h, hl, inB_nI hj hn, and_self, if_true, nI_clamp (Nat.lt_trans hj hn)]
theorem stI_s {S : St} {a ck j n : Nat} (h : kd S a = ck) (hl : ln S a = n) (hj : j < n) (hn : n < 2 ^ 31) (v : Int32) : stI S (some a) ck (nI j) v = some (setI S a j (nrw ck v)) := by
  unfold stI
  simp only [h, hl, inB_nI hj hn, and_self, if_true, nI_clamp (Nat.lt_trans hj hn)]
theorem stL_s {S : St} {a j n : Nat} (h : kd S a = 16) (hl : ln S a = n) (hj : j < n) (hn : n < 2 ^ 31) (v : Int64) : stL S (some a) (nI j) v = some (setL S a j v) := by
  unfold stL
  simp only [h, hl, inB_nI hj hn, and_self, if_true, nI_clamp (Nat.lt_trans hj hn)]
theorem nrw15 (v : Int32) : nrw 15 v = v := rfl
theorem zchk0 : zchk 0 = some 0 := rfl
theorem zchk1 : zchk 1 = some 1 := rfl
theorem lt_i (a b : Int32) : a < b ↔ a.toInt < b.toInt := Int32.lt_iff_toInt_lt
theorem le_i (a b : Int32) : a ≤ b ↔ a.toInt ≤ b.toInt := Int32.le_iff_toInt_le
theorem eq_i (a b : Int32) : a = b ↔ a.toInt = b.toInt := Int32.toInt_inj.symm
theorem add_i {a b : Int32} (h1 : -2147483648 ≤ a.toInt + b.toInt) (h2 : a.toInt + b.toInt < 2147483648) : (a + b).toInt = a.toInt + b.toInt := by
  rw [Int32.toInt_add]
  exact Int.bmod_eq_of_le (by omega) (by omega)
theorem sub_i {a b : Int32} (h1 : -2147483648 ≤ a.toInt - b.toInt) (h2 : a.toInt - b.toInt < 2147483648) : (a - b).toInt = a.toInt - b.toInt := by
  rw [Int32.toInt_sub]
  exact Int.bmod_eq_of_le (by omega) (by omega)
theorem mul_i {a b : Int32} (h1 : -2147483648 ≤ a.toInt * b.toInt) (h2 : a.toInt * b.toInt < 2147483648) : (a * b).toInt = a.toInt * b.toInt := by
  rw [Int32.toInt_mul]
  exact Int.bmod_eq_of_le (by omega) (by omega)
theorem rng_i (a : Int32) : -2147483648 ≤ a.toInt ∧ a.toInt < 2147483648 := ⟨Int32.le_toInt a, Int32.toInt_lt a⟩
