/-! the class's lists of steps -/
theorem ty1_len {d : Nat} {q : Sps} {t t' : List Bool} (h : ty1 d q t = some t') (hl : t.length ≤ d) : t'.length ≤ d := by
  rcases ty1_c h with ⟨-, e2, -, rfl⟩ | ⟨-, e2, rfl⟩ | ⟨-, u, rfl, rfl⟩ | ⟨-, u, rfl, e2, e3, rfl⟩ | ⟨-, u, rfl, rfl⟩ | ⟨-, u, rfl, rfl⟩ | ⟨-, u, rfl, rfl⟩ <;> simp only [List.length_cons] at * <;> omega
section Steps
variable {xb la : Nat} {C : List Int32} {V : Nat → Int32}
theorem X_steps (n1 : ¬ PX xb la) (n2 : ¬ PX xb (la + 2)) : ∀ (r : List Sps) (p fu : Nat) (T : St) (st : List Int32) (t t' : List Bool), tyD 32 r t = some t' → VT t st → t.length ≤ 32 → XOK T xb → XC T la C → PS T xb st → (∀ k, 1 ≤ k → k ≤ 4 → mi T (xb + 10) (k - 1) = V k) → p + (r.flatMap cStep).length ≤ C.length → (∀ i, i < (r.flatMap cStep).length → C.getD (p + i) 0 = (r.flatMap cStep).getD i 0) → ∃ T', f_X9_greatest_12 (fu + (r.flatMap cStep).length) T (xb + 10) (some la) (nI p) = f_X9_greatest_12 fu T' (xb + 10) (some la) (nI (p + (r.flatMap cStep).length)) ∧ SW (PX xb) T T' ∧ PS T' xb (evs V r st) ∧ ∀ k, k ≠ 5 → mi T' (xb + 10) k = mi T (xb + 10) k := by
  intro r
  induction r with
  | nil =>
    intro p fu T st t t' hy vt hl x h ps hV hp hc
    exact ⟨T, rfl, SW.rf _ _, ps, fun _ _ => rfl⟩
  | cons q r ih =>
    intro p fu T st t t' hy vt hl x h ps hV hp hc
    have ef : (q :: r).flatMap cStep = cStep q ++ r.flatMap cStep := rfl
    rw [ef] at hp hc ⊢
    rw [List.length_append] at hp hc ⊢
    unfold tyD at hy
    obtain ⟨t1, hq, hr⟩ := Option.bind_eq_some_iff.mp hy
    obtain ⟨A, a1, a2, a3, a4⟩ := X_step (fu := fu + (r.flatMap cStep).length) (p := p) (V := V) hq vt (by rw [vt.len]; exact hl) x h n1 n2 ps hV (by omega) (fun i hi => by
      rw [hc i (by omega), getD_l _ _ _ hi])
    obtain ⟨B, b1, b2, b3, b4⟩ := ih (p + (cStep q).length) fu A (ev1 V q st) t1 t' hr (ev1_vt hq vt) (ty1_len hq hl) (x.sw a2) (h.sw a2 n1 n2) a3 (fun k h1 h4 => by rw [a4 (k - 1) (by omega)]; exact hV k h1 h4) (by omega) (fun i hi => by
      rw [Nat.add_assoc, hc ((cStep q).length + i) (by omega), getD_r])
    refine ⟨B, ?_, a2.tr b2, b3, fun k hk => by rw [b4 k hk, a4 k hk]⟩
    rw [show fu + ((cStep q).length + (r.flatMap cStep).length) = fu + (r.flatMap cStep).length + (cStep q).length by omega, a1, b1, Nat.add_assoc]
end Steps
