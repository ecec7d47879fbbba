section Tkb
variable {mb s : Nat} {T T' U : St} {x : LawV} {x3 : Int32} {PL : List PLn} {w : LnR} {W : List LnR} {L : List Sps}
theorem ix4 (k s a : Nat) : nI k * nI s + nI a = nI (k * s + a) := by rw [pk_mul, nI_add]
/-- one line is taken -/
theorem M_takes {i : Nat} (m : MOK T mb) (hs : s < 4) (hi : i < 24) (lr : LR mb T i L w) (ok : okW w) (n4 : w.1 ≠ 4) (tv : TV mb s T x x3) (tp : TP mb s T PL) (hL : L.length = (allS PL).length) (hP : PL.length < 24) : ∃ T', f_X12_takes T mb (nI s) (nI i) = some T' ∧ TW mb s T T' ∧ TV mb s T' (stepL x w) x3 ∧ TP mb s T' (PL ++ pl1 w) := by
  obtain ⟨l1, l2, l3, l4⟩ := lr
  obtain ⟨t1, t2, t3, t4, t5, t6⟩ := tv
  have sort : ldI T (some (mb + 30)) 15 (nI i) = some (nI w.1) := by rw [mL_freshSort m hi, l1]
  have e10 : ∀ z : w.1 ≠ 8, PL ++ pl1 w = PL := fun z => by unfold pl1; rw [if_neg z, List.append_nil]
  rcases ok with ⟨a | a | a | a | a, b⟩ | ⟨a, b⟩
  · obtain ⟨a1, a2, a3⟩ := a
    have i1 : nI w.1 = 3 := by rw [a1]; rfl
    have gA : ldI T (some (mb + 31)) 15 (nI i) = some (nI w.2.1) := by rw [mL_freshA m hi, l2 (by omega)]
    have gB : ldI T (some (mb + 32)) 15 (nI i) = some (nI w.2.2.1) := by rw [mL_freshB m hi, l3 (by omega)]
    have ix : (4 : Int32) * nI s + nI w.2.1 = nI (4 * s + w.2.1) := ix4 4 s w.2.1
    have es : stepL x w = (fun k => if k = w.2.1 then nI w.2.2.1 else x.1 k, x.2) := by unfold stepL; rw [a1]; rfl
    refine ⟨setI T (mb + 20) (4 * s + w.2.1) (nI w.2.2.1), ?_, TW_I (by omega) (by omega) (by show 4 * s ≤ _ ∧ _ < 4 * s + 4; omega) _, ?_, ?_⟩
    · unfold f_X12_takes
      simp only [mR_freshSort m, sort, i1, eq_self, if_true, Option.bind_some, mR_sleepYears m, mR_freshA m, gA, mR_freshB m, gB, ix, mS_sleepYears m (show 4 * s + w.2.1 < 16 by omega), nrw15]
    · rw [es]
      refine ⟨fun k hk => ?_, ?_, ?_, ?_, ?_, ?_⟩
      · rw [mi_setI_i]
        show _ = if k = w.2.1 then nI w.2.2.1 else x.1 k
        by_cases e : k = w.2.1
        · rw [if_pos ⟨rfl, by omega⟩, if_pos e]
        · rw [if_neg (by omega), if_neg e]; exact t1 k hk
      · rw [mi_setI_i, if_neg (by omega)]; exact t2
      · rw [mi_setI_i, if_neg (by omega)]; exact t3
      · rw [mi_setI_i, if_neg (by omega)]; exact t4
      · rw [mi_setI_i, if_neg (by omega)]; exact t5
      · rw [mi_setI_i, if_neg (by omega)]; exact t6
    · rw [e10 (by omega)]
      exact ⟨by rw [mi_setI_i, if_neg (by omega)]; exact tp.1, fun j hj => by rw [mi_setI_i, if_neg (by omega), mi_setI_i, if_neg (by omega)]; exact tp.2 j hj⟩
  · exact absurd a.1 n4
  · obtain ⟨a1, a2⟩ := a
    have i1 : nI w.1 = 5 := by rw [a1]; rfl
    have gA : ldI T (some (mb + 31)) 15 (nI i) = some (nI w.2.1) := by rw [mL_freshA m hi, l2 (by omega)]
    have es : stepL x w = (x.1, x.2.1, nI w.2.1, x.2.2.2) := by unfold stepL; rw [a1]; rfl
    refine ⟨setI T (mb + 22) s (nI w.2.1), ?_, TW_I (by omega) (by omega) (by show 1 * s ≤ _ ∧ _ < 1 * s + 1; omega) _, ?_, ?_⟩
    · unfold f_X12_takes
      simp only [mR_freshSort m, sort, i1, Option.bind_some]
      rw [if_neg (by decide), if_pos (by decide)]
      simp only [Option.bind_some, mR_letter m, mR_freshA m, gA, mS_letter m hs, nrw15]
    · rw [es]
      refine ⟨fun k hk => ?_, ?_, ?_, ?_, ?_, ?_⟩
      · rw [mi_setI_i, if_neg (by omega)]; exact t1 k hk
      · rw [mi_setI_i, if_neg (by omega)]; exact t2
      · rw [mi_setI_i, if_pos ⟨rfl, rfl⟩]
      · rw [mi_setI_i, if_neg (by omega)]; exact t4
      · rw [mi_setI_i, if_neg (by omega)]; exact t5
      · rw [mi_setI_i, if_neg (by omega)]; exact t6
    · rw [e10 (by omega)]
      exact ⟨by rw [mi_setI_i, if_neg (by omega)]; exact tp.1, fun j hj => by rw [mi_setI_i, if_neg (by omega), mi_setI_i, if_neg (by omega)]; exact tp.2 j hj⟩
  · obtain ⟨a1, a2⟩ := a
    have i1 : nI w.1 = 6 := by rw [a1]; rfl
    have gA : ldI T (some (mb + 31)) 15 (nI i) = some (nI w.2.1) := by rw [mL_freshA m hi, l2 (by omega)]
    have es : stepL x w = (x.1, x.2.1, x.2.2.1, nI w.2.1, x.2.2.2.2) := by unfold stepL; rw [a1]; rfl
    refine ⟨setI T (mb + 23) s (nI w.2.1), ?_, TW_I (by omega) (by omega) (by show 1 * s ≤ _ ∧ _ < 1 * s + 1; omega) _, ?_, ?_⟩
    · unfold f_X12_takes
      simp only [mR_freshSort m, sort, i1, Option.bind_some]
      rw [if_neg (by decide), if_neg (by decide), if_pos (by decide)]
      simp only [Option.bind_some, mR_fee m, mR_freshA m, gA, mS_fee m hs, nrw15]
    · rw [es]
      refine ⟨fun k hk => ?_, ?_, ?_, ?_, ?_, ?_⟩
      · rw [mi_setI_i, if_neg (by omega)]; exact t1 k hk
      · rw [mi_setI_i, if_neg (by omega)]; exact t2
      · rw [mi_setI_i, if_neg (by omega)]; exact t3
      · rw [mi_setI_i, if_pos ⟨rfl, rfl⟩]
      · rw [mi_setI_i, if_neg (by omega)]; exact t5
      · rw [mi_setI_i, if_neg (by omega)]; exact t6
    · rw [e10 (by omega)]
      exact ⟨by rw [mi_setI_i, if_neg (by omega)]; exact tp.1, fun j hj => by rw [mi_setI_i, if_neg (by omega), mi_setI_i, if_neg (by omega)]; exact tp.2 j hj⟩
  · obtain ⟨a1, a2, a3⟩ := a
    have i1 : nI w.1 = 7 := by rw [a1]; rfl
    have gA : ldI T (some (mb + 31)) 15 (nI i) = some (nI w.2.1) := by rw [mL_freshA m hi, l2 (by omega)]
    obtain ⟨A, hA⟩ : ∃ A, A = setI T (mb + 24) s (nI w.2.1) := ⟨_, rfl⟩
    have wA : TW mb s T A := by rw [hA]; exact TW_I (by omega) (by omega) (by show 1 * s ≤ _ ∧ _ < 1 * s + 1; omega) _
    have mA := m.sw wA.1
    have gB : ldI A (some (mb + 32)) 15 (nI i) = some (nI w.2.2.1) := by rw [mL_freshB mA hi, wA.ro (by omega), l3 (by omega)]
    have es : stepL x w = (x.1, x.2.1, x.2.2.1, x.2.2.2.1, nI w.2.1, nI w.2.2.1) := by unfold stepL; rw [a1]; rfl
    refine ⟨setI A (mb + 25) s (nI w.2.2.1), ?_, wA.tr (TW_I (by omega) (by omega) (by show 1 * s ≤ _ ∧ _ < 1 * s + 1; omega) _), ?_, ?_⟩
    · unfold f_X12_takes
      simp only [mR_freshSort m, sort, i1, Option.bind_some]
      rw [if_neg (by decide), if_neg (by decide), if_neg (by decide), if_pos (by decide)]
      simp only [Option.bind_some, mR_interestBy m, mR_freshA m, gA, mS_interestBy m hs, nrw15, ← hA, mR_interestFor mA, mR_freshB mA, gB, mS_interestFor mA hs]
    · rw [es]
      refine ⟨fun k hk => ?_, ?_, ?_, ?_, ?_, ?_⟩
      · rw [mi_setI_i, if_neg (by omega), hA, mi_setI_i, if_neg (by omega)]; exact t1 k hk
      · rw [mi_setI_i, if_neg (by omega), hA, mi_setI_i, if_neg (by omega)]; exact t2
      · rw [mi_setI_i, if_neg (by omega), hA, mi_setI_i, if_neg (by omega)]; exact t3
      · rw [mi_setI_i, if_neg (by omega), hA, mi_setI_i, if_neg (by omega)]; exact t4
      · rw [mi_setI_i, if_neg (by omega), hA, mi_setI_i, if_pos ⟨rfl, rfl⟩]
      · rw [mi_setI_i, if_pos ⟨rfl, rfl⟩]
    · rw [e10 (by omega)]
      exact ⟨by rw [mi_setI_i, if_neg (by omega), hA, mi_setI_i, if_neg (by omega)]; exact tp.1, fun j hj => by rw [mi_setI_i, if_neg (by omega), mi_setI_i, if_neg (by omega), hA, mi_setI_i, if_neg (by omega), mi_setI_i, if_neg (by omega)]; exact tp.2 j hj⟩
  · have i1 : nI w.1 = 8 := by rw [a]; rfl
    obtain ⟨b1, b2⟩ := l4 a
    have g26 : ldI T (some (mb + 26)) 15 (nI s) = some (nI PL.length) := by rw [mL_proofs m hs, tp.1]
    have gF : ldI T (some (mb + 33)) 15 (nI i) = some (nI L.length) := by rw [mL_freshFrom m (by omega), b1]
    have ix : (25 : Int32) * nI s + nI PL.length = nI (25 * s + PL.length) := ix4 25 s _
    have ix2 : (24 : Int32) * nI s + nI PL.length = nI (24 * s + PL.length) := ix4 24 s _
    obtain ⟨A, hA⟩ : ∃ A, A = setI T (mb + 27) (25 * s + PL.length) (nI L.length) := ⟨_, rfl⟩
    have wA : TW mb s T A := by rw [hA]; exact TW_I (by omega) (by omega) (by show 25 * s ≤ _ ∧ _ < 25 * s + 25; omega) _
    have mA := m.sw wA.1
    have g26A : ldI A (some (mb + 26)) 15 (nI s) = some (nI PL.length) := by rw [mL_proofs mA hs, hA, mi_setI_i, if_neg (by omega), tp.1]
    have gW : ldI A (some (mb + 34)) 15 (nI i) = some (nI (L.length + w.2.2.2.1.length)) := by rw [mL_freshWhen mA hi, wA.ro (by omega), b2]
    obtain ⟨B, hB⟩ : ∃ B, B = setI A (mb + 28) (24 * s + PL.length) (nI (L.length + w.2.2.2.1.length)) := ⟨_, rfl⟩
    have wB : TW mb s A B := by rw [hB]; exact TW_I (by omega) (by omega) (by show 24 * s ≤ _ ∧ _ < 24 * s + 24; omega) _
    have mB := mA.sw wB.1
    have g26B : ldI B (some (mb + 26)) 15 (nI s) = some (nI PL.length) := by rw [mL_proofs mB hs, hB, mi_setI_i, if_neg (by omega), hA, mi_setI_i, if_neg (by omega), tp.1]
    obtain ⟨D, hD⟩ : ∃ D, D = setI B (mb + 26) s (nI (PL.length + 1)) := ⟨_, rfl⟩
    have wD : TW mb s B D := by rw [hD]; exact TW_I (by omega) (by omega) (by show 1 * s ≤ _ ∧ _ < 1 * s + 1; omega) _
    have hO : ∀ o, o ≠ 26 → o ≠ 27 → o ≠ 28 → ∀ j, mi D (mb + o) j = mi T (mb + o) j := fun o _ _ _ j => by rw [hD, mi_setI_i, if_neg (by omega), hB, mi_setI_i, if_neg (by omega), hA, mi_setI_i, if_neg (by omega)]
    have es : stepL x w = x := by unfold stepL; rw [a]; rfl
    have e8 : pl1 w = [w.2.2.2] := by unfold pl1; rw [if_pos a]
    refine ⟨D, ?_, (wA.tr wB).tr wD, ?_, ?_⟩
    · unfold f_X12_takes
      simp only [mR_freshSort m, sort, i1, Option.bind_some]
      rw [if_neg (by decide), if_neg (by decide), if_neg (by decide), if_neg (by decide)]
      simp only [Option.bind_some, mR_from m, mR_proofs m, g26, mR_freshFrom m, gF, ix, mS_from m (show 25 * s + PL.length < 100 by omega), nrw15, ← hA, mR_when mA, mR_proofs mA, g26A, mR_freshWhen mA, gW, ix2, mS_when mA (show 24 * s + PL.length < 96 by omega), ← hB, mR_proofs mB, g26B, nI_1, mS_proofs mB hs, ← hD]
    · rw [es]
      exact ⟨fun k hk => by rw [hO _ (by omega) (by omega) (by omega)]; exact t1 k hk, by rw [hO _ (by omega) (by omega) (by omega)]; exact t2, by rw [hO _ (by omega) (by omega) (by omega)]; exact t3, by rw [hO _ (by omega) (by omega) (by omega)]; exact t4, by rw [hO _ (by omega) (by omega) (by omega)]; exact t5, by rw [hO _ (by omega) (by omega) (by omega)]; exact t6⟩
    · rw [e8]
      refine tp.snoc _ ?_ (fun j hj => ?_) (fun j hj => ?_) ?_ ?_
      · rw [hD, mi_setI_i, if_pos ⟨rfl, rfl⟩]
      · rw [hD, mi_setI_i, if_neg (by omega), hB, mi_setI_i, if_neg (by omega), hA, mi_setI_i, if_neg (by omega)]
      · rw [hD, mi_setI_i, if_neg (by omega), hB, mi_setI_i, if_neg (by omega), hA, mi_setI_i, if_neg (by omega)]
      · rw [hD, mi_setI_i, if_neg (by omega), hB, mi_setI_i, if_neg (by omega), hA, mi_setI_i, if_pos ⟨rfl, rfl⟩, hL]
      · rw [hD, mi_setI_i, if_neg (by omega), hB, mi_setI_i, if_pos ⟨rfl, rfl⟩, hL]
end Tkb
