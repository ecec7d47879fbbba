/-! LISTS -/
def LI (S : St) (l n : Nat) (f : Nat → Nat) : Prop := kd S l = 0 ∧ mi S l 2 = nI n ∧ n < 100000 ∧ ∃ e, mr S l 1 = some e ∧ (n = 0 ∧ e = emp S ∧ kd S e = 21 ∨ kd S e = 20 ∧ n ≤ ln S e ∧ ln S e < 100000) ∧ ∀ i, i < n → mr S e i = some (f i)
theorem L_size {S : St} {l n : Nat} {f : Nat → Nat} (h : LI S l n f) : f_Jx4a65c_size_8abf5 S l = some (nI n) := by
  unfold f_Jx4a65c_size_8abf5
  rw [getI_s h.1, h.2.1]; rfl
theorem L_get {S : St} {l n i : Nat} {f : Nat → Nat} (h : LI S l n f) (hi : i < n) : f_Jx4a65c_get_915e3 S l (nI i) = some (some (f i)) := by
  obtain ⟨h1, h2, h3, e, h4, h5, h6⟩ := h
  have hk : kd S e = 20 ∧ n ≤ ln S e ∧ ln S e < 100000 := by
    rcases h5 with h | h
    · omega
    · exact h
  unfold f_Jx4a65c_get_915e3 f_J15_checkIndex_7cf53 f_J3_checkIndex_8e157 f_Jx4a65c_elementData_915e3
  simp only [getI_s h1, h2, Option.bind_some, if_neg (nI_pos (show i < 2 ^ 31 by omega)), if_pos (nI_lt hi (by omega)), rcv_s h1, getR_s h1, h4, ldR_s hk.1 rfl (show i < ln S e by omega) (show ln S e < 2 ^ 31 by omega), h6 i hi]
