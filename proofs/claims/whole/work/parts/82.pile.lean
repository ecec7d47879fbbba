/-! the class's pile -/
def PX (xb z : Nat) : Prop := z = xb + 10 ∨ z = xb + 11
def PS (T : St) (xb : Nat) (st : List Int32) : Prop := mi T (xb + 10) 5 = nI st.length ∧ SK (mi T (xb + 11)) st
section Pile
variable {xb : Nat} {T : St} {st : List Int32} {v : Int32}
theorem X_push (x : XOK T xb) (h : PS T xb st) (hl : st.length < 32) (v : Int32) : ∃ T', f_X9_push T (xb + 10) v = some T' ∧ SW (PX xb) T T' ∧ PS T' xb (v :: st) ∧ ∀ k, k ≠ 5 → mi T' (xb + 10) k = mi T (xb + 10) k := by
  obtain ⟨h1, h2⟩ := h
  have k10 := xK_scale x
  unfold f_X9_push
  have e1 : alen T (some (xb + 11)) = some (nI 32) := xZ_stack x
  simp only [getI_s k10, h1, xR_stack x, e1, X_isWithin, i01, nI_toInt (show st.length < 2 ^ 31 by omega), nI_toInt (show 32 < 2 ^ 31 by omega), Option.bind_some, xS_stack x hl, nrw15]
  rw [if_neg (fun z => z (by omega))]
  obtain ⟨A, hA⟩ : ∃ A, A = setI T (xb + 11) st.length v := ⟨_, rfl⟩
  rw [← hA]
  have wA : SW (PX xb) T A := by rw [hA]; exact SW_I _ _ (Or.inr rfl)
  have a10 : kd A (xb + 10) = 10 := by rw [wA.kd]; exact k10
  have aO : ∀ k, mi A (xb + 10) k = mi T (xb + 10) k := fun k => by rw [hA, mi_setI_i, if_neg (by omega)]
  simp only [getI_s a10, aO, h1, putI_s a10, Option.bind_some, nI_1]
  obtain ⟨B, hB⟩ : ∃ B, B = setI A (xb + 10) 5 (nI (st.length + 1)) := ⟨_, rfl⟩
  rw [← hB]
  have wB : SW (PX xb) A B := by rw [hB]; exact SW_I _ _ (Or.inl rfl)
  have b11 : ∀ k, mi B (xb + 11) k = mi A (xb + 11) k := fun k => by rw [hB, mi_setI_i, if_neg (by omega)]
  refine ⟨B, rfl, wA.tr wB, ⟨by rw [hB, mi_setI_i, if_pos ⟨rfl, rfl⟩]; rfl, ?_, h2.eq (fun i hi => ?_)⟩, fun k hk => ?_⟩
  · rw [b11, hA, mi_setI_i, if_pos ⟨rfl, rfl⟩]
  · rw [b11, hA, mi_setI_i, if_neg (by omega)]
  · rw [hB, mi_setI_i, if_neg (by omega), aO]
theorem X_pop (x : XOK T xb) (h : PS T xb (v :: st)) (hl : st.length < 32) : ∃ T', f_X9_pop T (xb + 10) = some (v, T') ∧ SW (PX xb) T T' ∧ PS T' xb st ∧ ∀ k, k ≠ 5 → mi T' (xb + 10) k = mi T (xb + 10) k := by
  obtain ⟨h1, h2, h3⟩ := h
  rw [List.length_cons] at h1
  have k10 := xK_scale x
  unfold f_X9_pop
  have e1 : alen T (some (xb + 11)) = some (nI 32) := xZ_stack x
  simp only [getI_s k10, h1, nI_pred, xR_stack x, e1, X_isWithin, i01, nI_toInt (show st.length < 2 ^ 31 by omega), nI_toInt (show 32 < 2 ^ 31 by omega), Option.bind_some, putI_s k10]
  rw [if_neg (fun z => z (by omega))]
  obtain ⟨A, hA⟩ : ∃ A, A = setI T (xb + 10) 5 (nI st.length) := ⟨_, rfl⟩
  rw [← hA]
  have wA : SW (PX xb) T A := by rw [hA]; exact SW_I _ _ (Or.inl rfl)
  have xA := x.sw wA
  have a10 : kd A (xb + 10) = 10 := by rw [wA.kd]; exact k10
  have a5 : mi A (xb + 10) 5 = nI st.length := by rw [hA, mi_setI_i, if_pos ⟨rfl, rfl⟩]
  have a11 : ∀ k, mi A (xb + 11) k = mi T (xb + 11) k := fun k => by rw [hA, mi_setI_i, if_neg (by omega)]
  simp only [getI_s a10, a5, xR_stack xA, xL_stack xA hl, a11, h2, Option.bind_some]
  exact ⟨A, rfl, wA, ⟨a5, h3.eq (fun i _ => a11 i)⟩, fun k hk => by rw [hA, mi_setI_i, if_neg (by omega)]⟩
end Pile
theorem X_named {T : St} {a k : Nat} (h : kd T a = 10) (h1 : 1 ≤ k) (h4 : k ≤ 4) : f_X9_named T a (nI (k + 9)) = some (mi T a (k - 1)) := by
  unfold f_X9_named
  have : k = 1 ∨ k = 2 ∨ k = 3 ∨ k = 4 := by omega
  rcases this with rfl | rfl | rfl | rfl
  · rw [if_pos (by decide), getI_s h]; rfl
  · rw [if_neg (by decide), if_pos (by decide), getI_s h]; rfl
  · rw [if_neg (by decide), if_neg (by decide), if_pos (by decide), getI_s h]; rfl
  · rw [if_neg (by decide), if_neg (by decide), if_neg (by decide), getI_s h]; rfl
