/-! READS: the reference takes what it read -/
def rbk : Nat → Nat
  | 20 => 4
  | 27 => 25
  | 28 => 24
  | 29 => 1220
  | _ => 1
def PTk (mb z : Nat) : Prop := mb + 20 ≤ z ∧ z ≤ mb + 29
def TW (mb s : Nat) (T T' : St) : Prop := SW (PTk mb) T T' ∧ ∀ o, 20 ≤ o → o ≤ 29 → ∀ j, (j < rbk o * s ∨ rbk o * s + rbk o ≤ j) → mi T' (mb + o) j = mi T (mb + o) j
def TV (mb s : Nat) (T : St) (x : LawV) (x3 : Int32) : Prop := (∀ k, k < 4 → mi T (mb + 20) (4 * s + k) = x.1 k) ∧ (x3 = 1 ∧ x.2.1 = 0 ∧ mi T (mb + 21) s = 63 ∨ x3 = 0 ∧ x.2.1 ≠ 0 ∧ mi T (mb + 21) s = x.2.1) ∧ mi T (mb + 22) s = x.2.2.1 ∧ mi T (mb + 23) s = x.2.2.2.1 ∧ mi T (mb + 24) s = x.2.2.2.2.1 ∧ mi T (mb + 25) s = x.2.2.2.2.2
def TP (mb s : Nat) (T : St) (PL : List PLn) : Prop := mi T (mb + 26) s = nI PL.length ∧ ∀ i, i < PL.length → mi T (mb + 27) (25 * s + i) = nI (allS (PL.take i)).length ∧ mi T (mb + 28) (24 * s + i) = nI ((allS (PL.take i)).length + (PL.getD i ([], [])).1.length)
def pl1 (w : LnR) : List PLn := if w.1 = 8 then [w.2.2.2] else []
def plW (W : List LnR) : List PLn := W.flatMap pl1
section Tak
variable {mb s : Nat} {T T' U : St} {x : LawV} {x3 : Int32} {PL : List PLn} {w : LnR} {W : List LnR}
theorem TW.rf (T : St) : TW mb s T T := ⟨SW.rf _ _, fun _ _ _ _ _ => rfl⟩
theorem TW.tr (h : TW mb s T T') (k : TW mb s T' U) : TW mb s T U := ⟨h.1.tr k.1, fun o h1 h2 j hj => (k.2 o h1 h2 j hj).trans (h.2 o h1 h2 j hj)⟩
theorem TW_I {o j : Nat} (h1 : 20 ≤ o) (h2 : o ≤ 29) (hj : rbk o * s ≤ j ∧ j < rbk o * s + rbk o) (u : Int32) : TW mb s T (setI T (mb + o) j u) := ⟨SW_I _ _ (by unfold PTk; omega), fun o' h1' h2' j' hj' => by
  rw [mi_setI_i]
  by_cases e : o' = o
  · subst e
    rw [if_neg (by omega)]
  · rw [if_neg (by omega)]⟩
theorem TW.ro (h : TW mb s T T') {o : Nat} (ho : o < 20 ∨ 29 < o) : mi T' (mb + o) = mi T (mb + o) := (h.1.2.2.2 (mb + o) (by unfold PTk; omega)).1
theorem TW.r0 (h : TW mb s T T') : mi T' mb = mi T mb := h.ro (o := 0) (by omega)
theorem or_tab : ∀ m, m < 64 → ∀ a, a < 6 → nI m ||| (1 <<< (nI a &&& 31)) = nI (m ||| 2 ^ a) ∧ m ||| 2 ^ a < 64 ∧ m ||| 2 ^ a ≠ 0 := by decide +kernel
theorem nI_nz {m : Nat} (h : m < 64) (h0 : m ≠ 0) : nI m ≠ 0 := fun z => by
  have : (nI m).toInt = 0 := by rw [z]; rfl
  rw [nI_toInt (by omega)] at this
  omega
theorem plW_st (hok : ∀ w ∈ W, okW w) : allS (plW W) = stW W := by
  induction W with
  | nil => rfl
  | cons w W ih =>
    have e1 : plW (w :: W) = pl1 w ++ plW W := List.flatMap_cons
    have e2 : stW (w :: W) = st1 w ++ stW W := List.flatMap_cons
    have e3 : allS (pl1 w ++ plW W) = allS (pl1 w) ++ allS (plW W) := by unfold allS; rw [List.flatMap_append]
    rw [e1, e2, e3, ih (fun z hz => hok z (List.mem_cons_of_mem _ hz))]
    congr 1
    rcases hok w List.mem_cons_self with ⟨a, b⟩ | ⟨a, b⟩
    · have n8 : w.1 ≠ 8 := by omega
      unfold pl1 st1
      rw [if_neg n8, b]
      rfl
    · unfold pl1 st1
      rw [if_pos a]
      show (w.2.2.2.1 ++ w.2.2.2.2) ++ [] = _
      rw [List.append_nil]
theorem pl_len : ∀ W : List LnR, (plW W).length ≤ W.length
  | [] => Nat.le_refl _
  | w :: W => by
    have e1 : plW (w :: W) = pl1 w ++ plW W := List.flatMap_cons
    rw [e1, List.length_append]
    have : (pl1 w).length ≤ 1 := by
      unfold pl1
      split
      · exact Nat.le_refl _
      · exact Nat.zero_le _
    have := pl_len W
    show _ ≤ W.length + 1
    omega
theorem TP.snoc (h : TP mb s T PL) (q : PLn) (h26 : mi T' (mb + 26) s = nI (PL.length + 1)) (h27 : ∀ i, i < PL.length → mi T' (mb + 27) (25 * s + i) = mi T (mb + 27) (25 * s + i)) (h28 : ∀ i, i < PL.length → mi T' (mb + 28) (24 * s + i) = mi T (mb + 28) (24 * s + i)) (g27 : mi T' (mb + 27) (25 * s + PL.length) = nI (allS PL).length) (g28 : mi T' (mb + 28) (24 * s + PL.length) = nI ((allS PL).length + q.1.length)) : TP mb s T' (PL ++ [q]) := by
  have len : (PL ++ [q]).length = PL.length + 1 := by rw [List.length_append]; rfl
  refine ⟨by rw [len]; exact h26, fun i hi => ?_⟩
  rw [len] at hi
  by_cases e : i = PL.length
  · have e1 : (PL ++ [q]).take i = PL := by rw [e, List.take_left']; rfl
    have e2 : (PL ++ [q]).getD i ([], []) = q := by
      have := getD_r PL [q] ([], []) 0
      rw [Nat.add_zero] at this
      rw [e, this]; rfl
    rw [e1, e2, e]
    exact ⟨g27, g28⟩
  · have e1 : (PL ++ [q]).take i = PL.take i := by rw [List.take_append_of_le_length (by omega)]
    rw [e1, getD_l _ _ _ (by omega), h27 i (by omega), h28 i (by omega)]
    exact h.2 i (by omega)
end Tak
