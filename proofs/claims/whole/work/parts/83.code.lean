/-! the class's code -/
def XC (T : St) (la : Nat) (C : List Int32) : Prop := kd T la = 7 ∧ mr T la 7 = some (la + 2) ∧ kd T (la + 2) = 15 ∧ mi T la 8 = nI C.length ∧ C.length ≤ ln T (la + 2) ∧ ln T (la + 2) < 1000 ∧ ∀ i, i < C.length → mi T (la + 2) i = C.getD i 0
theorem XC.sw {T T' : St} {xb la : Nat} {C : List Int32} (h : XC T la C) (w : SW (PX xb) T T') (h1 : ¬ PX xb la) (h2 : ¬ PX xb (la + 2)) : XC T' la C := by
  obtain ⟨a1, a2, a3, a4, a5, a6, a7⟩ := h
  exact ⟨by rw [w.kd]; exact a1, by rw [w.mr]; exact a2, by rw [w.kd]; exact a3, by rw [(w.2.2.2 la h1).1]; exact a4, by rw [w.ln]; exact a5, by rw [w.ln]; exact a6, by rw [(w.2.2.2 (la + 2) h2).1]; exact a7⟩
theorem X_codeAt {T : St} {la p : Nat} {C : List Int32} (h : XC T la C) (hp : p < C.length) : f_X6_codeAt T la (nI p) = some (C.getD p 0) := by
  obtain ⟨a1, a2, a3, a4, a5, a6, a7⟩ := h
  unfold f_X6_codeAt
  have e1 : alen T (some (la + 2)) = some (nI (ln T (la + 2))) := alen_s (by rw [a3]; omega) rfl
  have e2 : ldI T (some (la + 2)) 15 (nI p) = some (mi T (la + 2) p) := ldI_s a3 rfl (by omega) (by omega)
  simp only [getR_s a1, a2, e1, X_isWithin, i01, nI_toInt (show p < 2 ^ 31 by omega), nI_toInt (show ln T (la + 2) < 2 ^ 31 by omega), Option.bind_some, e2, a7 p hp]
  rw [if_neg (fun z => z (by omega))]
theorem X_comb (S : St) (a c : Int32) {k : Nat} {w : Int32} (h : k = 5 ∧ w = 18 ∨ k = 6 ∧ w = 19 ∨ k = 7 ∧ w = 20 ∨ k = 9 ∧ w = 24 ∨ k = 10 ∧ w = 25 ∨ k = 11 ∧ w = 26 ∨ k = 13 ∧ w = 15 ∨ k = 14 ∧ w = 14) : f_X9_combined S w a c = some (bo k a c) := by
  unfold f_X9_combined bo
  rcases h with ⟨rfl, rfl⟩ | ⟨rfl, rfl⟩ | ⟨rfl, rfl⟩ | ⟨rfl, rfl⟩ | ⟨rfl, rfl⟩ | ⟨rfl, rfl⟩ | ⟨rfl, rfl⟩ | ⟨rfl, rfl⟩
  · rfl
  · rfl
  · rfl
  · show (if c ≤ a then some 0 else some 1) = some (if c ≤ a then 0 else 1)
    split <;> rfl
  · show (if a = c then some 1 else some 0) = some (if a = c then 1 else 0)
    split <;> rfl
  · show (if a ≤ c then some 0 else some 1) = some (if a ≤ c then 0 else 1)
    split <;> rfl
  · rfl
  · rfl
section Code
variable {T : St} {xb la p fu : Nat} {C : List Int32}
theorem g_push (x : XOK T xb) (h : XC T la C) (hp : p < C.length) (h0 : 0 ≤ C.getD p 0) : f_X9_greatest_12 (fu + 1) T (xb + 10) (some la) (nI p) = (f_X9_push T (xb + 10) (C.getD p 0)).bind fun S32 => f_X9_greatest_12 fu S32 (xb + 10) (some la) (nI (p + 1)) := by
  have hc := X_codeAt h hp
  obtain ⟨a1, a2, a3, a4, a5, a6, a7⟩ := h
  rw [f_X9_greatest_12]
  unfold f_X6_codeLength
  simp only [rcv_s a1, getI_s a1, a4, hc, Option.bind_some, xV_scale x, nI_1]
  rw [if_neg (nI_ge (by omega) (by omega)), if_neg (Int32.not_lt.mpr h0)]
theorem g_name (x : XOK T xb) (h : XC T la C) (hp : p < C.length) {k : Nat} (h1 : 1 ≤ k) (h4 : k ≤ 4) (h0 : C.getD p 0 = - nI (k + 9)) : f_X9_greatest_12 (fu + 1) T (xb + 10) (some la) (nI p) = (f_X9_push T (xb + 10) (mi T (xb + 10) (k - 1))).bind fun S32 => f_X9_greatest_12 fu S32 (xb + 10) (some la) (nI (p + 1)) := by
  have hc := X_codeAt h hp
  rw [h0] at hc
  obtain ⟨a1, a2, a3, a4, a5, a6, a7⟩ := h
  rw [f_X9_greatest_12]
  unfold f_X6_codeLength
  simp only [rcv_s a1, getI_s a1, a4, hc, Option.bind_some, xV_scale x, nI_1, Int32.neg_neg, X_named (xK_scale x) h1 h4]
  rw [if_neg (nI_ge (by omega) (by omega))]
  have : k = 1 ∨ k = 2 ∨ k = 3 ∨ k = 4 := by omega
  rcases this with rfl | rfl | rfl | rfl
  · rw [if_pos (by decide), if_pos (by decide), if_neg (by decide)]
  · rw [if_pos (by decide), if_pos (by decide), if_neg (by decide)]
  · rw [if_pos (by decide), if_pos (by decide), if_neg (by decide)]
  · rw [if_pos (by decide), if_pos (by decide), if_neg (by decide)]
end Code
