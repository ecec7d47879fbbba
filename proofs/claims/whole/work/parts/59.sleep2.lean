/-- the day from which an account sleeps -/
def sdv (M : MI) (ne a : Nat) (K : Int32) : Int32 := stv M a (M 21 (owd M a K).toNatClampNeg) K (List.range ne) (M 13 a) + 360 * M 20 (4 * (owd M a K).toNatClampNeg + (M 11 a).toNatClampNeg)
section Sleep
variable {S : St} {xb na ne i nf np : Nat} {M : MI} {L : ML} {fa pa aa ea : Nat → Nat} {il : Nat → List Nat}
theorem X_sleepDay (x : XOK S xb) (cl : CL S xb M) (cf : CF S xb M nf fa) (cp : CP S xb M np pa) (ca : CA S xb M L nf fa np pa na aa) (ce : CE S xb M na aa ne ea il) (hi : i < na) (K : Int32) : f_X11_sleepDay S xb (some (aa i)) K = some (sdv M ne i K) := by
  have oi := ca.2.2.2 i hi
  have hk := oi.1
  obtain ⟨q1, q2, -⟩ := ce.2.2.2.2 i hi
  obtain ⟨s, s4, es⟩ := owd_in cf cp (ca.ar hi) K
  obtain ⟨la, hr, hl⟩ := cl s s4
  obtain ⟨t, t4, et⟩ := oi.2.2.2.2.2.1
  have e4 : mi S (aa i) 4 = M 13 i := oi.2.2.2.2.2.2.2.1
  have e2 : mi S (aa i) 2 = M 11 i := oi.2.2.2.2.1
  have hb := q1.2.2.1
  obtain ⟨r, r1, r2⟩ := X_stir8 hk oi.2.2.2.2.2.2.2.2.2.2.1 q1 (fun x hx => (ce.2.2.2.1 x hx).1) (fun x hx => (q2.mem.mp hx).1) (M 21 s) K (M 13 i) (il i).length 0 FU (M 13 i) (by omega) (by unfold FU; omega) ⟨Or.inl rfl, Int.le_refl _, fun x hx => by simp at hx⟩
  rw [nI_0] at r1
  have hs := stv_top (M := M) (b := M 13 i) (a := i) (so := M 21 s) (K := K) (List.range ne) (fun _ => False) (M 13 i) ⟨Or.inl rfl, Int.le_refl _, fun x hx => hx.elim⟩
  have hrr : r = stv M i (M 21 s) K (List.range ne) (M 13 i) := by
    refine top_one r2 (top_cong hs (fun z => ?_))
    rw [q2.mem, List.mem_range]
    constructor
    · rintro (q | ⟨h1, h2, h3⟩)
      · exact q.elim
      · exact ⟨⟨h1, h2⟩, h3⟩
    · rintro ⟨⟨h1, h2⟩, h3⟩
      exact Or.inr ⟨h1, h2, h3⟩
  unfold f_X11_sleepDay f_X0_lastStir sdv
  simp only [X_owed cf cp ca hi, es, xV x, X_lawOf x s4 hr, Option.bind_some, rcv_s hl.1, X_sorts hl, rcv_s hk, getI_s hk, e4, e2, r1, et, X_years hl t4]
  rw [nI_clamp (show s < 2 ^ 31 by omega), nI_clamp (show t < 2 ^ 31 by omega), ← hrr, Int32.mul_comm]
theorem M_sleepOf {T : St} (m : MOK T (xb + 22)) (cf : CF S xb (Mi T (xb + 22)) nf fa) (cp : CP S xb (Mi T (xb + 22)) np pa) (ca : AR (Mi T (xb + 22)) nf np i) (h4 : mi T (xb + 22) 4 = nI ne) (hne : ne ≤ 600) (K : Int32) : f_X12_sleepOf T (xb + 22) (nI i) K = some (sdv (Mi T (xb + 22)) ne i K) := by
  obtain ⟨s, s4, es⟩ := owd_in cf cp ca K
  obtain ⟨t, t4, et⟩ := ca.2.2.1
  have n40 := ca.1
  have et' : mi T (xb + 22 + 11) i = nI t := et
  have g := M_stir18 (a := i) m h4 hne s4 K ne 0 FU (mi T (xb + 22 + 13) i) (by omega) (by unfold FU; omega)
  rw [nI_0] at g
  unfold f_X12_sleepOf sdv
  simp only [mV m, M_owed m cf cp ca, es, Option.bind_some, mR_began m, mL_began m (show i < 40 by omega), g, mR_sleepYears m, mR_accountKind m, mL_accountKind m (show i < 40 by omega), et']
  rw [show (4 : Int32) * nI s + nI t = nI (4 * s + t) by rw [show (4 : Int32) = nI 4 from rfl, pk_mul, nI_add], mL_sleepYears m (by omega)]
  simp only [Option.bind_some]
  rw [et, nI_clamp (show s < 2 ^ 31 by omega), nI_clamp (show t < 2 ^ 31 by omega), List.range_eq_range']
  rfl
end Sleep
theorem op_sleep {S : St} {xb k : Nat} (h : JJ S xb (k + 1)) (a K w : Int32) : ∃ r, f_X11_sleep S xb a K w = some r ∧ f_X12_sleep S (xb + 22) a K w = some r := by
  obtain ⟨⟨g', j⟩, rm1, rm2⟩ := id h
  obtain ⟨nf, fa, np, pa, na, aa, ne, ea, il, nc, ca, rfl, b, c0, ct, cy, cf, cp, cn, ca', ce, cc, cl⟩ := j.op
  have x := b.2.2.1
  have m := b.2.2.2.1
  have a1 : mi S (xb + 22) 3 = nI na := ca'.1
  have a2 := ca'.2.1
  have e0 : mi S xb 0 = mi S (xb + 22) 0 := c0.1
  unfold f_X11_sleep f_X12_sleep f_X12_sleep_25
  rcases ixc a (n := na) (by omega) with ⟨i, hi, rfl⟩ | c1
  · have hk := (ca'.2.2.2 i hi).1
    obtain ⟨s, s4, es⟩ := owd_in cf cp (ca'.ar hi) K
    obtain ⟨la, hr, hl⟩ := cl s s4
    have e3 : mi S la 3 = mi S (xb + 22 + 22) s := hl.2.2.2.2.2.2.2.1
    simp only [xV x, mV m, X_accountAt x ca'.2.2.1 hk hi, M_isAccount m a1 (by omega) hi, Option.bind_some, if_neg (show ¬ (some (aa i) = none) by simp), X_isPast x, M_isPast m, i01, e0, X_owed cf cp ca' hi, M_owed m cf cp (ca'.ar hi), X_sleepDay x cl cf cp ca' ce hi, M_sleepOf m cf cp (ca'.ar hi) ce.2.1 ce.2.2.1, es, X_lawOf x s4 hr, getI_s hl.1, e3, mR_letter m, mL_letter m s4, M_isIn, Int32.reduceToInt]
    rw [if_neg (show ¬ ((1 : Int32) = 0) by decide)]
    have w0 : w = 0 ↔ w.toInt = 0 := eq_i w 0
    have w1 : w = 1 ↔ w.toInt = 1 := eq_i w 1
    have w2 : w = 2 ↔ w.toInt = 2 := eq_i w 2
    have w3 : w = 3 ↔ w.toInt = 3 := eq_i w 3
    simp only [w0, w1, w2, w3]
    repeat' split
    all_goals first | exact ⟨_, rfl, rfl⟩ | (exfalso; omega)
  · simp only [xV x, mV m, X_accountAt_n x ca'.2.2.1 c1, M_isAccount_n m a1 (by omega) c1, Option.bind_some, if_true]
    exact ⟨_, rfl, rfl⟩
