/-! REPORT -/
section Rep
variable (M : MI) (L : ML) (ne f : Nat) (now : Int32) (il : Nat → List Nat)
/-- an account that the report takes -/
def hqB (z : Nat) : Bool := decide (M 39 z = -1) && (decide (fo M now 8 (M 10 z).toNatClampNeg = f) && decide ((sdv M ne z now).toInt ≤ now.toInt))
def repM (t : Nat) : MI := fun o z => if (o = 39 ∨ o = 40 ∨ o = 41) ∧ z < t ∧ hqB M ne f now z = true then (if o = 39 then owd M z now else if o = 40 then now else now - sdv M ne z now) else M o z
def repL (t : Nat) : ML := fun o z => if o = 42 ∧ z < t ∧ hqB M ne f now z = true then asum0 M now now (il z) else L o z
end Rep
section Rep2
variable {M : MI} {L : ML} {ne f : Nat} {now : Int32} {il : Nat → List Nat}
theorem repM_row {t o : Nat} (h : o ≠ 39 ∧ o ≠ 40 ∧ o ≠ 41) : repM M ne f now t o = M o := by
  funext z
  unfold repM
  rw [if_neg (by omega)]
theorem repM_ge {t o z : Nat} (h : t ≤ z) : repM M ne f now t o z = M o z := by
  unfold repM
  rw [if_neg (by omega)]
theorem repL_row {t o : Nat} (h : o ≠ 42) : repL M L ne f now il t o = L o := by
  funext z
  unfold repL
  rw [if_neg (by omega)]
theorem repM_0 : repM M ne f now 0 = M := by
  funext o z
  exact repM_ge (Nat.zero_le _)
theorem repL_0 : repL M L ne f now il 0 = L := by
  funext o z
  unfold repL
  rw [if_neg (by omega)]
theorem repM_n {t : Nat} (h : hqB M ne f now t ≠ true) : repM M ne f now (t + 1) = repM M ne f now t := by
  funext o z
  unfold repM
  by_cases c : z = t
  · subst c
    rw [if_neg (fun q => h q.2.2), if_neg (fun q => h q.2.2)]
  · exact ifc ⟨fun q => ⟨q.1, by omega, q.2.2⟩, fun q => ⟨q.1, by omega, q.2.2⟩⟩
theorem repL_n {t : Nat} (h : hqB M ne f now t ≠ true) : repL M L ne f now il (t + 1) = repL M L ne f now il t := by
  funext o z
  unfold repL
  by_cases c : z = t
  · subst c
    rw [if_neg (fun q => h q.2.2), if_neg (fun q => h q.2.2)]
  · exact ifc ⟨fun q => ⟨q.1, by omega, q.2.2⟩, fun q => ⟨q.1, by omega, q.2.2⟩⟩
theorem repM_y {t : Nat} (h : hqB M ne f now t = true) : repM M ne f now (t + 1) = up2 (up2 (up2 (repM M ne f now t) 39 t (owd M t now)) 40 t now) 41 t (now - sdv M ne t now) := by
  funext o z
  by_cases c : z = t
  · subst c
    unfold repM up2
    by_cases e1 : o = 41
    · subst e1; simp [h]
    · by_cases e2 : o = 40
      · subst e2; simp [h]
      · by_cases e3 : o = 39
        · subst e3; simp [h]
        · simp [e1, e2, e3]
  · rw [up2_nk _ c, up2_nk _ c, up2_nk _ c]
    unfold repM
    exact ifc ⟨fun q => ⟨q.1, by omega, q.2.2⟩, fun q => ⟨q.1, by omega, q.2.2⟩⟩
theorem repL_y {t : Nat} (h : hqB M ne f now t = true) : repL M L ne f now il (t + 1) = up2 (repL M L ne f now il t) 42 t (asum0 M now now (il t)) := by
  funext o z
  by_cases c : z = t
  · subst c
    unfold repL up2
    by_cases e1 : o = 42
    · subst e1; simp [h]
    · simp [e1]
  · rw [up2_nk _ c]
    unfold repL
    exact ifc ⟨fun q => ⟨q.1, by omega, q.2.2⟩, fun q => ⟨q.1, by omega, q.2.2⟩⟩
theorem fo_rows {M M' : MI} (e2 : M' 2 = M 2) (e3 : M' 3 = M 3) (d : Int32) : ∀ n i, fo M' d n i = fo M d n i := by
  intro n
  induction n with
  | zero => intro i; rfl
  | succ n ih => intro i; unfold fo; rw [e2, e3, ih]
theorem owd_rows {M M' : MI} (e1 : M' 1 = M 1) (e2 : M' 2 = M 2) (e3 : M' 3 = M 3) (e6 : M' 6 = M 6) (e10 : M' 10 = M 10) (e12 : M' 12 = M 12) (a : Nat) (d : Int32) : owd M' a d = owd M a d := by
  unfold owd
  rw [e1, e6, e10, e12, fo_rows e2 e3]
theorem sdv_rows {M M' : MI} (e1 : M' 1 = M 1) (e2 : M' 2 = M 2) (e3 : M' 3 = M 3) (e6 : M' 6 = M 6) (e10 : M' 10 = M 10) (e11 : M' 11 = M 11) (e12 : M' 12 = M 12) (e13 : M' 13 = M 13) (e14 : M' 14 = M 14) (e15 : M' 15 = M 15) (e16 : M' 16 = M 16) (e19 : M' 19 = M 19) (e20 : M' 20 = M 20) (e21 : M' 21 = M 21) (ne a : Nat) (d : Int32) : sdv M' ne a d = sdv M ne a d := by
  unfold sdv stv stir
  rw [owd_rows e1 e2 e3 e6 e10 e12, e11, e13, e14, e15, e16, e19, e20, e21]
theorem asum0_rows {M M' : MI} (e15 : M' 15 = M 15) (e16 : M' 16 = M 16) (e17 : M' 17 = M 17) (e18 : M' 18 = M 18) (e19 : M' 19 = M 19) (D K : Int32) (l : List Nat) : asum0 M' D K l = asum0 M D K l := by
  have : asum M' D K l 0 = asum M D K l 0 := by
    unfold asum
    refine foldl_ext (fun v x _ => ?_) 0
    unfold flt chg
    rw [e15, e16, e17, e18, e19]
  unfold asum0
  rw [this]
end Rep2
