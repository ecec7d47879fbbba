/-! CALLS, the plain ones -/
theorem op_days {S : St} {xb k : Nat} (h : JJ S xb (k + 1)) (n : Int32) : ∃ r S1, f_X11_days S xb n = some (r, S1) ∧ ∃ S2, f_X12_days S1 (xb + 22) n = some (r, S2) ∧ JJ S2 xb k := by
  obtain ⟨⟨g, j⟩, -⟩ := id h
  obtain ⟨nf, fa, np, pa, na, aa, ne, ea, il, nc, ca, rfl, b, c0, ct, cy, cf, cp, cn, ca', ce, cc, cl⟩ := j.op
  have x := b.2.2.1
  have m := b.2.2.2.1
  have e0 : mi S xb 0 = mi S (xb + 22) 0 := c0.1
  have h0 : 0 ≤ (mi S xb 0).toInt ∧ (mi S xb 0).toInt ≤ 19999 := by rw [e0]; exact ⟨c0.2.1, c0.2.2.1⟩
  rw [X_days x.1 h0]
  by_cases c : 1 ≤ n.toInt ∧ n.toInt ≤ 9999 ∧ (mi S xb 0).toInt + n.toInt ≤ 19999
  · rw [if_pos c]
    refine ⟨_, _, rfl, ?_⟩
    have m1 := m.si xb 0 (mi S xb 0 + n)
    have e1 : mi (setI S xb 0 (mi S xb 0 + n)) (xb + 22) 0 = mi S xb 0 := by rw [mi_setI_i, if_neg (by omega), e0]
    rw [M_days m1 (by rw [e1]; exact h0), e1, if_pos c]
    refine ⟨_, rfl, ?_⟩
    have F : Fr (fun a => a = xb) S (setI S xb 0 (mi S xb 0 + n)) := Fr_setI 0 _ (by rw [x.1]; omega) (fun _ => rfl)
    have hP : ∀ a, a = xb → kd S a = 12 := fun a e => by rw [e]; exact x.1
    have a1 : (mi S xb 0 + n).toInt = (mi S xb 0).toInt + n.toInt := add_i (by omega) (by omega)
    refine h.fin (M' := up2 (Mi S (xb + 22)) 0 0 (mi S xb 0 + n)) (L' := Ml S (xb + 22)) (JX.mk (b.si 0 _ (by rw [x.1]; omega)) ?_ ?_ (cy.gk b F hP (by decide) rfl) (cf.gk b F hP (by decide) rfl rfl rfl rfl rfl) (cp.gk b F hP (by decide) rfl rfl rfl rfl rfl rfl rfl) (cn.gk cp b F hP (by decide) rfl rfl) (ca'.gk b F hP (by decide) rfl ?_ rfl rfl rfl rfl rfl rfl rfl rfl) (ce.gk b F hP (by decide) ?_ (fun _ _ => Or.inl (by decide)) rfl rfl rfl rfl rfl rfl rfl) (cc.gk b F hP (by decide) rfl (fun _ _ z => z) rfl rfl rfl rfl rfl rfl rfl) (cl.gk b F hP (by decide) rfl rfl rfl rfl rfl rfl rfl rfl rfl rfl)) rfl (by rw [nx_setI]; omega) (by rw [sl_setI]; omega) (Fr_m0 m1 0 _) rfl rfl rfl ?_ ?_
    · refine ⟨by rw [mi_setI_i, if_pos ⟨rfl, rfl⟩, up2_eq], by rw [up2_eq]; omega, by rw [up2_eq]; omega, ?_, ?_⟩
      · rw [mi_setI_i, if_neg (by omega)]; exact c0.2.2.2.1
      · rw [mi_setI_i, if_neg (by omega)]; exact c0.2.2.2.2
    · refine ct.gk b F hP (by decide) ?_ rfl rfl
      rw [mi_setI_i, if_neg (by omega)]
    · rw [up2_eq]
      show (mi S (xb + 22) 0).toInt ≤ _
      rw [← e0]; omega
    · rw [mi_setI_i, if_neg (by omega)]
    · rw [Mi_setI0]
      have : Mi (setI S xb 0 (mi S xb 0 + n)) (xb + 22) = Mi S (xb + 22) := by
        funext o i
        show mi (setI S xb 0 (mi S xb 0 + n)) (xb + 22 + o) i = _
        rw [mi_setI_i, if_neg (by omega)]; rfl
      rw [this]
      exact PeqI.rf _
    · exact PeqL.rf _
  · rw [if_neg c]
    refine ⟨_, _, rfl, ?_⟩
    rw [M_days m (by rw [← e0]; exact h0), ← e0, if_neg c]
    exact ⟨_, rfl, h.le⟩
