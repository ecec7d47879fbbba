/-- what an account comes to -/
def asum0 (M : MI) (D K : Int32) (l : List Nat) : Int64 := if asum M D K l 0 < 0 then 0 else asum M D K l 0
theorem X_asked' {S : St} {xb na ne i : Nat} {M : MI} {aa ea : Nat → Nat} {il : Nat → List Nat} (hk : kd S (aa i) = 1) (hr : mr S (aa i) 5 = some (aa i + 1)) (ce : CE S xb M na aa ne ea il) (hi : i < na) (D K : Int32) : f_X0_askedSum S (aa i) D K = some (asum0 M D K (il i)) := by
  obtain ⟨q1, q2, -⟩ := ce.2.2.2.2 i hi
  have hb := q1.2.2.1
  unfold f_X0_askedSum
  have := X_sum5 hk hr q1 (fun x hx => (ce.2.2.2.1 x hx).1) (fun x hx => (q2.mem.mp hx).1) D K (il i).length 0 FU 0 (by omega) (by unfold FU; omega)
  rw [nI_0] at this
  rw [this, List.drop_zero]
  rfl
theorem X_asked {S : St} {xb na ne i nf np : Nat} {M : MI} {L : ML} {fa pa aa ea : Nat → Nat} {il : Nat → List Nat} (ca : CA S xb M L nf fa np pa na aa) (ce : CE S xb M na aa ne ea il) (hi : i < na) (D K : Int32) : f_X0_askedSum S (aa i) D K = some (asum0 M D K (il i)) := by
  have oi := ca.2.2.2 i hi
  obtain ⟨q1, q2, -⟩ := ce.2.2.2.2 i hi
  have hb := q1.2.2.1
  unfold f_X0_askedSum
  have := X_sum5 oi.1 oi.2.2.2.2.2.2.2.2.2.2.1 q1 (fun x hx => (ce.2.2.2.1 x hx).1) (fun x hx => (q2.mem.mp hx).1) D K (il i).length 0 FU 0 (by omega) (by unfold FU; omega)
  rw [nI_0] at this
  rw [this, List.drop_zero]
  rfl
theorem M_sumNow {S T : St} {xb na ne i : Nat} {aa ea : Nat → Nat} {il : Nat → List Nat} (m : MOK S (xb + 22)) (ce : CE T xb (Mi S (xb + 22)) na aa ne ea il) (hi : i < na) (D K : Int32) : f_X12_sumNow S (xb + 22) (nI i) D K = some (asum0 (Mi S (xb + 22)) D K (il i)) := by
  obtain ⟨t1, t2, t3, t4, t5⟩ := ce
  have t2 : mi S (xb + 22) 4 = nI ne := t2
  obtain ⟨q1, q2, -⟩ := t5 i hi
  have hb : ∀ x, x < ne → Mi S (xb + 22) 15 x = 6 → 1 ≤ (Mi S (xb + 22) 18 x).toInt := fun x hx h6 => by
    rcases (t4 x hx).1.2.2.2.2.1 with ⟨-, -, -, -, -, -, -, z, -⟩ | ⟨⟨s, z1, z2⟩, -⟩
    · exact z
    · rw [z2, eq_i, nI_toInt (by omega)] at h6
      simp only [Int32.reduceToInt] at h6
      omega
  have hd : ∀ x, x < ne → 0 ≤ (Mi S (xb + 22) 16 x).toInt ∧ (Mi S (xb + 22) 16 x).toInt ≤ 19999 := fun x hx => (t4 x hx).1.2.2.2.2.2
  have hlen : (il i).length ≤ ne := by
    have := q2.1.length_eq
    rw [this]
    exact Nat.le_trans (List.length_filter_le _ _) (by rw [List.length_range]; exact Nat.le_refl _)
  unfold f_X12_sumNow f_X12_sumOf f_X12_nextDay
  obtain ⟨r, n1, n2⟩ := M_next6 (a := i) m t2 t3 (fun x hx => (hd x hx).1) 0 K ne 0 FU (-1) (by omega) (by unfold FU; omega) (Or.inl ⟨rfl, fun y hy => by omega⟩)
  rw [nI_0] at n1
  simp only [mV m, Option.bind_some, n1]
  rw [M_sum12 m t2 t3 hb hd q2 D K ne FU 0 0 r (by unfold FU; omega) (Nat.le_trans (List.length_filter_le _ _) hlen) n2]
  simp only [Option.bind_some, cmp_neg]
  have e : ((il i).filter (rfp (Mi S (xb + 22)) K 0)).foldl (fun v x => if decide ((Mi S (xb + 22) 16 x).toInt ≤ D.toInt) then chg (Mi S (xb + 22)) x v else v) 0 = asum (Mi S (xb + 22)) D K (il i) 0 := by
    rw [List.foldl_filter]
    unfold asum
    refine foldl_ext (fun v x hx => ?_) 0
    have h0 := (hd x (q2.mem.mp hx).1).1
    have z : (0 : Int32).toInt = 0 := rfl
    by_cases c1 : (Mi S (xb + 22) 19 x).toInt ≤ K.toInt
    · rw [if_pos (by simp only [Bool.and_eq_true, decide_eq_true_eq, z]; exact ⟨c1, h0⟩)]
      by_cases c2 : (Mi S (xb + 22) 16 x).toInt ≤ D.toInt
      · rw [if_pos (by simpa using c2), if_pos (by simp only [decide_eq_true_eq]; exact ⟨c2, c1⟩)]
      · rw [if_neg (by simpa using c2), if_neg (by simp only [decide_eq_true_eq]; exact fun q => c2 q.1)]
    · rw [if_neg (by simp only [Bool.and_eq_true, decide_eq_true_eq]; exact fun q => c1 q.1), if_neg (by simp only [decide_eq_true_eq]; exact fun q => c1 q.2)]
  rw [e]
  unfold asum0
  by_cases c : asum (Mi S (xb + 22)) D K (il i) 0 < 0
  · rw [if_neg (fun q => q c), if_pos c]
  · rw [if_pos c, if_neg c]
theorem op_sum {S : St} {xb k : Nat} (h : JJ S xb (k + 1)) (a D K : Int32) : ∃ r, f_X11_sum S xb a D K = some r ∧ f_X12_sum S (xb + 22) a D K = some r := by
  obtain ⟨⟨g', j⟩, rm1, rm2⟩ := id h
  obtain ⟨nf, fa, np, pa, na, aa, ne, ea, il, nc, ca, rfl, b, c0, ct, cy, cf, cp, cn, ca', ce, cc, cl⟩ := j.op
  have x := b.2.2.1
  have m := b.2.2.2.1
  have a1 : mi S (xb + 22) 3 = nI na := ca'.1
  have a2 := ca'.2.1
  have e0 : mi S xb 0 = mi S (xb + 22) 0 := c0.1
  unfold f_X11_sum f_X12_sum
  rcases ixc a (n := na) (by omega) with ⟨i, hi, rfl⟩ | c1
  · have hk := (ca'.2.2.2 i hi).1
    simp only [xV x, mV m, X_accountAt x ca'.2.2.1 hk hi, M_isAccount m a1 (by omega) hi, Option.bind_some, if_neg (show ¬ (some (aa i) = none) by simp), X_isPast x, M_isPast m, i01, e0, rcv_s hk, X_asked ca' ce hi, M_sumNow m ce hi]
    rw [if_neg (show ¬ ((1 : Int32) = 0) by decide)]
    repeat' split
    all_goals exact ⟨_, rfl, rfl⟩
  · simp only [xV x, mV m, X_accountAt_n x ca'.2.2.1 c1, M_isAccount_n m a1 (by omega) c1, Option.bind_some, if_true]
    exact ⟨_, rfl, rfl⟩
