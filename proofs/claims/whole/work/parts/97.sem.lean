/-! THE SEMANTICS OF THE LAW: every run answers 1 -/
theorem sem_law {L : Nat} {xs : Nat → Int32} (hL : L ≤ 3072) {S0 : St} {x0 : Nat} (hI : Init0 S0) : ∃ o : Int32 × St, f_L_law L xs S0 x0 = some o ∧ o.1 = 1 := by
  obtain ⟨T0, S4, S8, S12, e1, e2, e3, e4, k1, k2, j⟩ := init_all hI
  obtain ⟨o, h1, h2⟩ := law_loop (xs := xs) (x0 := x0) hL (fun h s => op_reads h s) 512 0 FU S12 (by omega) (by unfold FU; omega) (by omega) j
  rw [Nat.mul_zero, nI_0] at h1
  refine ⟨o, ?_, h2⟩
  unfold f_L_law
  simp only [e1, Option.bind_some, rcv_s k1, e2, e3, rcv_s k2, e4]
  exact h1
