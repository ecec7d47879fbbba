/-! LAWS read, what is owed to whom, sleep -/
section Laws
variable {S : St} {xb : Nat} {M : MI}
theorem X_lawOf {s la : Nat} (x : XOK S xb) (hs : s < 4) (hr : mr S (xb + 9) s = some la) : f_X11_lawOf S xb (nI s) = some (some la) := by
  unfold f_X11_lawOf
  simp only [xR_laws x, xZ_laws x, Option.bind_some, X_isWithin, i01, Int32.reduceToInt, nI_toInt (show s < 2 ^ 31 by omega), xL_laws x hs, hr]
  rw [if_neg (by omega)]
theorem X_years {s la t : Nat} (h : LO S xb M s la) (ht : t < 4) : f_X6_yearsOfSleep S la (nI t) = some (M 20 (4 * s + t)) := by
  obtain ⟨k1, -, r1, k2, l2, v, -⟩ := h
  unfold f_X6_yearsOfSleep
  simp only [getR_s k1, r1, Option.bind_some, alen_s (show 14 ≤ kd S (la + 1) ∧ kd S (la + 1) ≤ 20 by omega) l2, X_isWithin, i01, nI_toInt (show t < 2 ^ 31 by omega), nI_toInt (show 4 < 2 ^ 31 by decide), ldI_s k2 l2 ht (by decide), (v t ht).1]
  rw [if_neg (by omega)]
theorem X_sorts {s la : Nat} (h : LO S xb M s la) : f_X6_sortsThatCount S la = some (M 21 s) := by
  obtain ⟨k1, -, -, -, -, -, v, -⟩ := h
  unfold f_X6_sortsThatCount
  simp only [getI_s k1, Option.bind_some]
  rw [v]
  split <;> rfl
end Laws
theorem op_told {S : St} {xb k : Nat} (h : JJ S xb (k + 1)) (s w : Int32) : ∃ r, f_X11_told S xb s w = some r ∧ f_X12_told S (xb + 22) s w = some r := by
  obtain ⟨⟨g', j⟩, rm1, rm2⟩ := id h
  obtain ⟨nf, fa, np, pa, na, aa, ne, ea, il, nc, ca, rfl, b, c0, ct, cy, cf, cp, cn, ca', ce, cc, cl⟩ := j.op
  have x := b.2.2.1
  have m := b.2.2.2.1
  unfold f_X11_told f_X12_told
  simp only [X_isWithin, M_isState, i01, Int32.reduceToInt, Option.bind_some]
  rcases ixc s (n := 4) (by decide) with ⟨i, hi, rfl⟩ | c1
  · have tI := nI_toInt (n := i) (by omega)
    obtain ⟨la, hr, hl⟩ := cl i hi
    rw [if_neg (by rw [tI]; omega), if_neg (by rw [tI]; omega)]
    simp only [xV x, X_lawOf x hi hr, Option.bind_some, rcv_s hl.1, getI_s hl.1, X_sorts hl]
    have e3 : mi S la 3 = mi S (xb + 22 + 22) i := hl.2.2.2.2.2.2.2.1
    have e4 : mi S la 4 = mi S (xb + 22 + 23) i := hl.2.2.2.2.2.2.2.2.1
    have e5 : mi S la 5 = mi S (xb + 22 + 24) i := hl.2.2.2.2.2.2.2.2.2.1
    have e6 : mi S la 6 = mi S (xb + 22 + 25) i := hl.2.2.2.2.2.2.2.2.2.2.1
    have e21 : Mi S (xb + 22) 21 i = mi S (xb + 22 + 21) i := rfl
    rw [e3, e4, e5, e6, e21]
    simp only [mR_counting m, mL_counting m hi, mR_letter m, mL_letter m hi, mR_fee m, mL_fee m hi, mR_interestBy m, mL_interestBy m hi, mR_interestFor m, mL_interestFor m hi, mR_sleepYears m, Option.bind_some]
    rcases ixc w (n := 4) (by decide) with ⟨t, ht, rfl⟩ | c2
    · have uI := nI_toInt (n := t) (by omega)
      rw [if_neg (by rw [uI]; omega), X_years hl ht, show (4 : Int32) * nI i + nI t = nI (4 * i + t) by rw [show (4 : Int32) = nI 4 from rfl, pk_mul, nI_add], mL_sleepYears m (by omega)]
      simp only [Option.bind_some]
      have e20 : Mi S (xb + 22) 20 (4 * i + t) = mi S (xb + 22 + 20) (4 * i + t) := rfl
      rw [e20]
      have : t = 0 ∨ t = 1 ∨ t = 2 ∨ t = 3 := by omega
      rcases this with rfl | rfl | rfl | rfl
      · rw [if_pos (by decide)]; exact ⟨_, rfl, rfl⟩
      · rw [if_neg (by decide), if_pos (by decide)]; exact ⟨_, rfl, rfl⟩
      · rw [if_neg (by decide), if_neg (by decide), if_pos (by decide)]; exact ⟨_, rfl, rfl⟩
      · rw [if_neg (by decide), if_neg (by decide), if_neg (by decide), if_pos (by decide)]; exact ⟨_, rfl, rfl⟩
    · have n0 : ∀ q : Nat, q < 4 → w ≠ nI q := fun q hq e => by
        rw [e, nI_toInt (by omega)] at c2; omega
      rw [if_pos (by omega), if_neg (show ¬ w = 0 from n0 0 (by omega)), if_neg (show ¬ w = 1 from n0 1 (by omega)), if_neg (show ¬ w = 2 from n0 2 (by omega)), if_neg (show ¬ w = 3 from n0 3 (by omega))]
      repeat' split
      all_goals exact ⟨_, rfl, rfl⟩
  · rw [if_pos (by omega), if_pos (by omega)]
    exact ⟨_, rfl, rfl⟩
/-- the state to which an account is owed on a day -/
def owd (M : MI) (a : Nat) (d : Int32) : Int32 := if M 6 (M 12 a).toNatClampNeg = -1 then M 1 (fo M d 8 (M 10 a).toNatClampNeg) else M 6 (M 12 a).toNatClampNeg
/-- what the reference's rows of an account are -/
def AR (M : MI) (nf np i : Nat) : Prop := i < 40 ∧ (∃ j, j < nf ∧ M 10 i = nI j) ∧ (∃ k, k < 4 ∧ M 11 i = nI k) ∧ ∃ j, j < np ∧ M 12 i = nI j
theorem CA.ar {S : St} {xb : Nat} {M : MI} {L : ML} {nf np na : Nat} {fa pa aa : Nat → Nat} (h : CA S xb M L nf fa np pa na aa) {i : Nat} (hi : i < na) : AR M nf np i := by
  obtain ⟨k1, -, -, ⟨f, f1, f2, f3⟩, -, k, ⟨p, p1, p2, p3⟩, -⟩ := h.2.2.2 i hi
  exact ⟨by have := h.2.1; omega, ⟨f, f1, f2⟩, k, ⟨p, p1, p2⟩⟩
section Owed
variable {S : St} {xb na ne i nf np : Nat} {M : MI} {L : ML} {fa pa aa ea : Nat → Nat} {il : Nat → List Nat}
theorem owd_in (cf : CF S xb M nf fa) (cp : CP S xb M np pa) (ca : AR M nf np i) (d : Int32) : ∃ s, s < 4 ∧ owd M i d = nI s := by
  obtain ⟨-, ⟨f, f1, f2⟩, -, ⟨p, p1, p2⟩⟩ := ca
  unfold owd
  rw [f2, p2, nI_clamp (by have := cf.2.1; have := cp.2.1; omega), nI_clamp (by have := cf.2.1; have := cp.2.1; omega)]
  by_cases c : M 6 p = -1
  · rw [if_pos c]
    exact (cf.2.2.2.1 _ (fo_lt cf d 8 f f1)).2.2.2.2.1
  · rw [if_neg c]
    exact ((cp.2.2.2 p p1).2.2.2.2.2.2.2.2.2.2.1).resolve_left c
theorem X_owed (cf : CF S xb M nf fa) (cp : CP S xb M np pa) (ca : CA S xb M L nf fa np pa na aa) (hi : i < na) (d : Int32) : f_X11_owedOn S (some (aa i)) d = some (owd M i d) := by
  obtain ⟨k1, -, -, ⟨f, f1, f2, f3⟩, -, -, ⟨p, p1, p2, p3⟩, -⟩ := ca.2.2.2 i hi
  unfold f_X11_owedOn owd
  have hf := fo_lt cf d 8 f f1
  simp only [getR_s k1, p3, f3, Option.bind_some, getI_s (cp.2.2.2 p p1).1, (cp.2.2.2 p p1).2.2.2.2.2.2.1, X_holder cf d f1, getI_s (cf.2.2.2.1 _ hf).1, (cf.2.2.2.1 _ hf).2.2.2.1]
  rw [f2, p2, nI_clamp (by have := cf.2.1; have := cp.2.1; omega), nI_clamp (by have := cf.2.1; have := cp.2.1; omega)]
  split <;> rfl
theorem M_owed {T : St} (m : MOK T (xb + 22)) (cf : CF S xb (Mi T (xb + 22)) nf fa) (cp : CP S xb (Mi T (xb + 22)) np pa) (ca : AR (Mi T (xb + 22)) nf np i) (d : Int32) : f_X12_owedTo T (xb + 22) (nI i) d = some (owd (Mi T (xb + 22)) i d) := by
  obtain ⟨n40, ⟨f, f1, f2⟩, -, ⟨p, p1, p2⟩⟩ := ca
  have n24 := cp.2.1
  have n8 := cf.2.1
  have e12 : mi T (xb + 22 + 12) i = nI p := p2
  have e10 : mi T (xb + 22 + 10) i = nI f := f2
  have hfo := fo_lt cf d 8 f f1
  unfold f_X12_owedTo owd
  rw [f2, p2, nI_clamp (by omega), nI_clamp (by omega)]
  simp only [mR_home m, mR_owner m, mL_owner m (show i < 40 by omega), e12, mL_home m (show p < 24 by omega), mR_firmState m, mR_accountFirm m, mL_accountFirm m (show i < 40 by omega), e10, mV m, M_firmOf m cf d f1, mL_firmState m (show fo (Mi T (xb + 22)) d 8 f < 8 by omega), Option.bind_some]
  show (if Mi T (xb + 22) 6 p = -1 then some (Mi T (xb + 22) 1 _) else some (Mi T (xb + 22) 6 p)) = _
  split <;> rfl
end Owed
