/-! THE START, joined: whole_start out of the semantics -/
theorem sem_law {L : Nat} {xs : Nat → Int32} (hL : L ≤ 3072) {S0 : St} {x0 : Nat} (hI : Init0 S0) : ∃ o : Int32 × St, f_L_law L xs S0 x0 = some o ∧ o.1 = 1 := by
  sorry
