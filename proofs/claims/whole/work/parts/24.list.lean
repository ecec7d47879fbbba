/-! LISTS -/
/-- the list at l has n places, which hold f -/
def LI (S : St) (l n : Nat) (f : Nat → Nat) : Prop := kd S l = 0 ∧ mi S l 2 = nI n ∧ n < 100000 ∧ (∃ e, mr S l 1 = some e ∧ (n = 0 ∧ e = emp S ∧ kd S e = 21 ∨ kd S e = 20 ∧ n ≤ ln S e ∧ 0 < ln S e ∧ ln S e < 100000) ∧ ∀ i, i < n → mr S e i = some (f i)) ∧ ∀ i, i < n → kd S (f i) < 14
theorem L_size {S : St} {l n : Nat} {f : Nat → Nat} (h : LI S l n f) : f_Jx4a65c_size_8abf5 S l = some (nI n) := by
  unfold f_Jx4a65c_size_8abf5
  rw [getI_s h.1, h.2.1]; rfl
theorem L_get {S : St} {l n i : Nat} {f : Nat → Nat} (h : LI S l n f) (hi : i < n) : f_Jx4a65c_get_915e3 S l (nI i) = some (some (f i)) := by
  obtain ⟨h1, h2, h3, ⟨e, h4, h5, h6⟩, h7⟩ := h
  have hk : kd S e = 20 ∧ n ≤ ln S e ∧ ln S e < 100000 := by
    rcases h5 with h | h
    · omega
    · exact ⟨h.1, h.2.1, h.2.2.2⟩
  unfold f_Jx4a65c_get_915e3 f_J15_checkIndex_7cf53 f_J3_checkIndex_8e157 f_Jx4a65c_elementData_915e3
  simp only [getI_s h1, h2, Option.bind_some, if_neg (nI_pos (show i < 2 ^ 31 by omega)), if_pos (nI_lt hi (by omega)), rcv_s h1, getR_s h1, h4, ldR_s hk.1 rfl (show i < ln S e by omega) (show ln S e < 2 ^ 31 by omega), h6 i hi]
/-- different lists have different rows -/
def DA (S : St) : Prop := (∀ l e, kd S l = 0 → mr S l 1 = some e → kd S e < 99) ∧ ∀ l1 l2 e, kd S l1 = 0 → kd S l2 = 0 → mr S l1 1 = some e → mr S l2 1 = some e → kd S e = 20 → l1 = l2
theorem LI.fr {S S' : St} {P : Nat → Prop} {l n : Nat} {f : Nat → Nat} (h : LI S l n f) (w : WFS S) (q : Fr P S S') (h1 : ¬ P l) (h2 : ∀ e, mr S l 1 = some e → kd S e = 20 → ¬ P e) : LI S' l n f := by
  obtain ⟨a1, a2, a3, ⟨e, a4, a5, a6⟩, a7⟩ := h
  have hl := w.lt (a := l) (by omega)
  obtain ⟨b1, b2, b3⟩ := q.2.2 l hl h1
  refine ⟨by rw [q.kdE hl, a1], by rw [b1, a2], a3, ⟨e, by rw [b3, a4], ?_, ?_⟩, fun i hi => ?_⟩
  · rcases a5 with ⟨c1, c2, c3⟩ | ⟨c1, c2⟩
    · exact Or.inl ⟨c1, by rw [q.empE, c2], q.kdw w c3 (by omega)⟩
    · refine Or.inr ⟨q.kdw w c1 (by omega), ?_⟩
      rw [q.lnE (w.lt (by omega))]; exact c2
  · intro i hi
    have c1 : kd S e = 20 := by
      rcases a5 with c | c
      · omega
      · exact c.1
    rw [(q.2.2 e (w.lt (by omega)) (h2 e a4 c1)).2.2, a6 i hi]
  · rw [q.kdE (w.lt (by have := a7 i hi; omega))]; exact a7 i hi
theorem shr1 {n : Nat} (h : n < 2 ^ 31) : nI n >>> ((1 : Int32) &&& 31) = nI (n / 2) := pk_shrN h _ 1 (by decide)
theorem okE_of {S : St} {e n : Nat} {f : Nat → Nat} (h : ∀ i, i < n → mr S e i = some (f i)) (h2 : ∀ i, i < n → kd S (f i) < 14) (sp m : Nat) (hm : sp + m ≤ n) : okE S e sp m = true := by
  unfold okE
  rw [List.all_eq_true]
  intro i hi
  rw [List.mem_range] at hi
  rw [h (sp + i) (by omega)]
  simpa using h2 (sp + i) (by omega)
theorem acopy_s {S : St} {a b sp dp n : Nat} (h1 : kd S a = 20) (h2 : kd S b = 20) (hb : sp < 2 ^ 31 ∧ dp < 2 ^ 31 ∧ n < 2 ^ 31) (h3 : sp + n ≤ ln S a) (h4 : dp + n ≤ ln S b) (h5 : okE S a sp n = true) : acopy S (some a) (nI sp) (some b) (nI dp) (nI n) = some (cpyR S a sp b dp n) := by
  unfold acopy
  simp only [nI_clamp hb.1, nI_clamp hb.2.1, nI_clamp hb.2.2]
  rw [if_pos ⟨⟨h1, h2⟩, ⟨nI_pos hb.1, nI_pos hb.2.1, nI_pos hb.2.2⟩, ⟨h3, h4⟩, h5⟩]
