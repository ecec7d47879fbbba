/-! the end of a proof line -/
section Ends
variable {xb : Nat} {T : St} {st : List Int32} {v c : Int32}
theorem X_e18 (x : XOK T xb) (ps : PS T xb (v :: st)) (hl : st.length < 32) (w : Int32) : ∃ T', f_X9_endLine_18 T (xb + 10) w = some T' ∧ SW (PX xb) T T' ∧ PS T' xb st ∧ mi T' (xb + 10) 6 = (if w = 0 then mi T (xb + 10) 6 else if v ≤ mi T (xb + 10) 6 then mi T (xb + 10) 6 else v) ∧ ∀ k, k ≠ 5 → k ≠ 6 → mi T' (xb + 10) k = mi T (xb + 10) k := by
  obtain ⟨A, y1, y2, y3, y4⟩ := X_pop x ps hl
  have a10 : kd A (xb + 10) = 10 := by rw [y2.kd]; exact xK_scale x
  unfold f_X9_endLine_18
  simp only [xV_scale x, Option.bind_some, y1]
  by_cases e : w = 0
  · rw [if_pos e, if_pos e]
    exact ⟨A, rfl, y2, y3, y4 6 (by decide), fun k h5 _ => y4 k h5⟩
  · rw [if_neg e, if_neg e]
    simp only [getI_s a10, Option.bind_some, max_s, putI_s a10, y4 6 (by decide)]
    obtain ⟨g, hg⟩ : ∃ g, g = mi T (xb + 10) 6 := ⟨_, rfl⟩
    rw [← hg]
    obtain ⟨B, hB⟩ : ∃ B, B = setI A (xb + 10) 6 (if g < v then v else g) := ⟨_, rfl⟩
    rw [← hB]
    have wB : SW (PX xb) A B := by rw [hB]; exact SW_I _ _ (Or.inl rfl)
    refine ⟨B, rfl, y2.tr wB, ⟨?_, y3.2.eq (fun i _ => ?_)⟩, ?_, fun k h5 h6 => ?_⟩
    · rw [hB, mi_setI_i, if_neg (by omega)]; exact y3.1
    · rw [hB, mi_setI_i, if_neg (by omega)]
    · rw [hB, mi_setI_i, if_pos ⟨rfl, rfl⟩]
      by_cases e1 : g < v
      · rw [if_pos e1, if_neg (Int32.not_le.mpr e1)]
      · rw [if_neg e1, if_pos (Int32.not_lt.mp e1)]
    · rw [hB, mi_setI_i, if_neg (by omega)]; exact y4 k h5
theorem X_end8 (x : XOK T xb) (ps : PS T xb (v :: st)) (hl : st.length < 32) : ∃ T', f_X9_endLine T (xb + 10) 8 = some T' ∧ SW (PX xb) T T' ∧ PS T' xb st ∧ mi T' (xb + 10) 6 = (if v ≤ mi T (xb + 10) 6 then mi T (xb + 10) 6 else v) ∧ ∀ k, k ≠ 5 → k ≠ 6 → mi T' (xb + 10) k = mi T (xb + 10) k := by
  unfold f_X9_endLine f_X9_endLine_13
  rw [if_pos rfl]
  have g := X_e18 x ps hl 1
  rw [if_neg (by decide)] at g
  exact g
theorem X_end9 (x : XOK T xb) (ps : PS T xb (c :: v :: st)) (hl : st.length + 1 < 32) : ∃ T', f_X9_endLine T (xb + 10) 9 = some T' ∧ SW (PX xb) T T' ∧ PS T' xb st ∧ mi T' (xb + 10) 6 = (if c = 0 then mi T (xb + 10) 6 else if v ≤ mi T (xb + 10) 6 then mi T (xb + 10) 6 else v) ∧ ∀ k, k ≠ 5 → k ≠ 6 → mi T' (xb + 10) k = mi T (xb + 10) k := by
  obtain ⟨A, y1, y2, y3, y4⟩ := X_pop x ps (by rw [List.length_cons]; omega)
  unfold f_X9_endLine f_X9_endLine_13
  rw [if_neg (by decide)]
  simp only [xV_scale x, Option.bind_some, y1]
  by_cases e : c = 0
  · obtain ⟨B, z1, z2, z3, z4, z5⟩ := X_e18 (x.sw y2) y3 (by omega) 0
    rw [if_pos rfl, y4 6 (by decide)] at z4
    rw [if_pos e, if_pos e]
    exact ⟨B, z1, y2.tr z2, z3, z4, fun k h5 h6 => by rw [z5 k h5 h6, y4 k h5]⟩
  · obtain ⟨B, z1, z2, z3, z4, z5⟩ := X_e18 (x.sw y2) y3 (by omega) 1
    rw [if_neg (by decide), y4 6 (by decide)] at z4
    rw [if_neg e, if_neg e]
    exact ⟨B, z1, y2.tr z2, z3, z4, fun k h5 h6 => by rw [z5 k h5 h6, y4 k h5]⟩
end Ends
