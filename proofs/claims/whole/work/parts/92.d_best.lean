theorem pair_in {i k g : Nat} (hi : i < 8) (hk : k < 8) (hg : g < 256) : ((nI g &&& (nI (2 ^ i) ||| nI (2 ^ k))) = (nI (2 ^ i) ||| nI (2 ^ k))) ↔ (i ∈ bits g ∧ k ∈ bits g) := by
  have h := of_decide_eq_true (List.all_eq_true.mp (List.all_eq_true.mp (List.all_eq_true.mp bc_ok i (List.mem_range.mpr hi)) k (List.mem_range.mpr hk)) g (List.mem_range.mpr hg))
  rw [h]
  unfold bits
  rw [List.mem_filter, List.mem_filter, List.mem_range, List.mem_range]
  exact ⟨fun z => ⟨⟨hi, z.1⟩, ⟨hk, z.2⟩⟩, fun z => ⟨z.1.2, z.2.2⟩⟩
theorem sl_i {i : Nat} (hi : i < 8) : (1 : Int32) <<< (nI i &&& 31) = nI (2 ^ i) := of_decide_eq_true (List.all_eq_true.mp sl_ok i (List.mem_range.mpr hi))
/-- the greatest worth so far, and how many have it -/
def BV (Z : ZF) (g c : Int32) : Prop := 0 < Z g.toInt 0 ∧ c = nI (Z g.toInt 0) ∧ ∀ w, g.toInt < w → Z w 0 = 0
def BW (Z : ZF) (g c : Int32) : Prop := ((∀ w, Z w 0 = 0) ∧ g = -9999 ∧ c = 0) ∨ BV Z g c
theorem BW_up {Z Y Z' : ZF} {g c b d tv : Int32} {U : Int} (h : BW Z g c) (hY : BV Y b d) (ht : tv.toInt = U + b.toInt) (hl : -9999 < tv.toInt) (hZ : ∀ w, Z' w 0 = Z w 0 + Y (w - U) 0) : BV Z' (if tv ≤ g then g else tv) ((if tv ≤ g then c else 0) + (if tv = (if tv ≤ g then g else tv) then d else 0)) := by
  obtain ⟨y1, y2, y3⟩ := hY
  by_cases e : tv ≤ g
  · rw [if_pos e, if_pos e]
    have e'' : tv.toInt ≤ g.toInt := by rw [le_i] at e; exact e
    rcases h with ⟨-, h2, -⟩ | ⟨h1, h2, h3⟩
    · rw [h2] at e''
      have : (-9999 : Int32).toInt = -9999 := rfl
      omega
    · by_cases q : tv = g
      · rw [if_pos q]
        have q' : tv.toInt = g.toInt := by rw [q]
        have eb : g.toInt - U = b.toInt := by omega
        refine ⟨?_, ?_, fun w hw => ?_⟩
        · rw [hZ]; omega
        · rw [hZ, eb, h2, y2, nI_add]
        · rw [hZ, h3 w hw, y3 (w - U) (by omega)]
      · rw [if_neg q]
        have q' : tv.toInt ≠ g.toInt := fun z => q ((eq_i _ _).mpr z)
        have z0 : Y (g.toInt - U) 0 = 0 := y3 _ (by omega)
        refine ⟨?_, ?_, fun w hw => ?_⟩
        · rw [hZ]; omega
        · rw [hZ, z0, h2, Int32.add_zero, Nat.add_zero]
        · rw [hZ, h3 w hw, y3 (w - U) (by omega)]
  · rw [if_neg e, if_neg e, if_pos rfl]
    have e' : g.toInt < tv.toInt := by
      rw [le_i] at e
      omega
    have eb : tv.toInt - U = b.toInt := by omega
    have hz : ∀ w, g.toInt < w → Z w 0 = 0 := by
      rcases h with ⟨h1, -, -⟩ | ⟨-, -, h3⟩
      · exact fun w _ => h1 w
      · exact h3
    refine ⟨?_, ?_, fun w hw => ?_⟩
    · rw [hZ, eb]; omega
    · rw [hZ, eb, hz _ e', y2, Int32.zero_add, Nat.zero_add]
    · rw [hZ, hz w (by omega), y3 (w - U) (by omega)]
theorem BV_un {Z : ZF} {g c g' c' : Int32} (h : BV Z g c) (h' : BV Z g' c') : g = g' ∧ c = c' := by
  obtain ⟨a1, a2, a3⟩ := h
  obtain ⟨b1, b2, b3⟩ := h'
  have e : g.toInt = g'.toInt := by
    by_cases c1 : g.toInt < g'.toInt
    · have := a3 _ c1; omega
    · by_cases c2 : g'.toInt < g.toInt
      · have := b3 _ c2; omega
      · omega
  have e2 : g = g' := (eq_i _ _).mpr e
  exact ⟨e2, by rw [a2, b2, e2]⟩
