/-! the class's greatest -/
theorem X_greatest {xb la : Nat} {V : Nat → Int32} {PL : List PLn} {T : St} (n1 : ¬ PX xb la) (n2 : ¬ PX xb (la + 2)) (hW : ∀ q ∈ PL, PW q) (x : XOK T xb) (h : XC T la (PL.flatMap cLine)) (hV : ∀ k, 1 ≤ k → k ≤ 4 → mi T (xb + 10) (k - 1) = V k) : ∃ T', f_X9_greatest T (xb + 10) (some la) = some (lnsV V PL PL.length, T') ∧ SW (PX xb) T T' := by
  have k10 := xK_scale x
  unfold f_X9_greatest
  rw [putI_s k10]
  simp only [Option.bind_some]
  obtain ⟨A, hA⟩ : ∃ A, A = setI T (xb + 10) 5 0 := ⟨_, rfl⟩
  rw [← hA]
  have wA : SW (PX xb) T A := by rw [hA]; exact SW_I _ _ (Or.inl rfl)
  have a10 : kd A (xb + 10) = 10 := by rw [wA.kd]; exact k10
  rw [putI_s a10]
  simp only [Option.bind_some]
  obtain ⟨B, hB⟩ : ∃ B, B = setI A (xb + 10) 6 0 := ⟨_, rfl⟩
  rw [← hB]
  have wB : SW (PX xb) A B := by rw [hB]; exact SW_I _ _ (Or.inl rfl)
  have wT := wA.tr wB
  have b5 : mi B (xb + 10) 5 = nI 0 := by rw [hB, mi_setI_i, if_neg (by omega), hA, mi_setI_i, if_pos ⟨rfl, rfl⟩, nI_0]
  have b6 : mi B (xb + 10) 6 = 0 := by rw [hB, mi_setI_i, if_pos ⟨rfl, rfl⟩]
  have bo' : ∀ k, k < 5 → mi B (xb + 10) k = mi T (xb + 10) k := fun k hk => by rw [hB, mi_setI_i, if_neg (by omega), hA, mi_setI_i, if_neg (by omega)]
  have hC := h.sw wT n1 n2
  have h1000 : (PL.flatMap cLine).length < 1000 := Nat.lt_of_le_of_lt hC.2.2.2.2.1 hC.2.2.2.2.2.1
  obtain ⟨D, d1, d2⟩ := X_loop (V := V) n1 n2 hW PL.length 0 FU B (by omega) (by unfold FU; omega) (x.sw wT) hC ⟨b5, trivial⟩ (fun k h1 h4 => by rw [bo' (k - 1) (by omega)]; exact hV k h1 h4) b6
  rw [show ((PL.take 0).flatMap cLine).length = 0 from rfl, nI_0] at d1
  exact ⟨D, d1, wT.tr d2⟩
