/-! AUDITS -/
def fah (g : Nat → Int32) : Nat → Int32
  | 0 => g 0
  | y + 1 => if g (y + 1) = -1 then fah g y else g (y + 1)
def fbe (g : Nat → Int32) : Nat → Nat → Int32
  | 0, _ => -1
  | n + 1, y => if g y = -1 then fbe g n (y + 1) else g y
def lsv (g : Nat → Int32) (y : Nat) : Int32 := if fah g y = -1 then 0 else if fbe g (20 - y) y = -1 then 0 else if fbe g (20 - y) y < fah g y then fbe g (20 - y) y else fah g y
def gsv (g : Nat → Int32) (y : Nat) : Int32 := if (0 : Int32) < (if fah g y < fbe g (20 - y) y then fbe g (20 - y) y else fah g y) then (if fah g y < fbe g (20 - y) y then fbe g (20 - y) y else fah g y) else 0
def gOK (g : Nat → Int32) : Prop := ∀ y, y < 20 → -1 ≤ (g y).toInt ∧ (g y).toInt ≤ 999999
theorem fah_in {g : Nat → Int32} (h : gOK g) : ∀ y, y < 20 → -1 ≤ (fah g y).toInt ∧ (fah g y).toInt ≤ 999999
  | 0, hy => h 0 hy
  | y + 1, hy => by
    unfold fah
    split
    · exact fah_in h y (by omega)
    · exact h (y + 1) hy
theorem fbe_in {g : Nat → Int32} (h : gOK g) : ∀ n y, y + n = 20 → -1 ≤ (fbe g n y).toInt ∧ (fbe g n y).toInt ≤ 999999
  | 0, y, _ => by
    show -1 ≤ (-1 : Int32).toInt ∧ (-1 : Int32).toInt ≤ 999999
    decide
  | n + 1, y, hy => by
    unfold fbe
    split
    · exact fbe_in h n (y + 1) (by omega)
    · exact h y (by omega)
theorem max_s (S : St) (a c : Int32) : f_J9_max_7cf53 S a c = some (if a < c then c else a) := by
  unfold f_J9_max_7cf53
  split <;> rfl
theorem min_s (S : St) (a c : Int32) : f_J9_min_7cf53 S a c = some (if c < a then c else a) := by
  unfold f_J9_min_7cf53
  split <;> rfl
section Aud
variable {S : St} {xb nf f : Nat} {M : MI} {fa : Nat → Nat} {a e : Nat} {g : Nat → Int32}
theorem X_fah (hk : kd S a = 5) (hr : mr S a 4 = some e) (ke : kd S e = 15) (le : ln S e = 20) (hv : ∀ y, y < 20 → mi S e y = g y) : ∀ y fu, y + 1 < fu → y < 20 → f_X4_figureAhead_2 fu S a (nI y) = some (fah g y) := by
  intro y
  induction y with
  | zero =>
    intro fu h1 h2
    obtain ⟨fu, rfl⟩ : ∃ k, fu = k + 2 := ⟨fu - 2, by omega⟩
    unfold f_X4_figureAhead_2
    rw [if_neg (by decide)]
    simp only [getR_s hk, hr, Option.bind_some, alen_s (show 14 ≤ kd S e ∧ kd S e ≤ 20 by omega) le]
    rw [if_neg (by decide)]
    simp only [ldI_s ke le (show 0 < 20 by omega) (by decide), hv 0 (by omega), Option.bind_some]
    by_cases c : g 0 = -1
    · rw [if_pos c]
      unfold f_X4_figureAhead_2
      rw [if_pos (by decide)]
      unfold fah
      rw [c]
    · rw [if_neg c]; rfl
  | succ y ih =>
    intro fu h1 h2
    obtain ⟨fu, rfl⟩ : ∃ k, fu = k + 1 := ⟨fu - 1, by omega⟩
    unfold f_X4_figureAhead_2
    rw [if_neg (nI_pos (by omega))]
    simp only [getR_s hk, hr, Option.bind_some, alen_s (show 14 ≤ kd S e ∧ kd S e ≤ 20 by omega) le]
    rw [if_neg (nI_ge (by omega) (by omega))]
    simp only [ldI_s ke le h2 (by decide), hv (y + 1) h2, Option.bind_some, pk_m1]
    rw [ih fu (by omega) (by omega)]
    show _ = some (if g (y + 1) = -1 then fah g y else g (y + 1))
    split <;> rfl
theorem X_fbe (hk : kd S a = 5) (hr : mr S a 4 = some e) (ke : kd S e = 15) (le : ln S e = 20) (hv : ∀ y, y < 20 → mi S e y = g y) : ∀ n y fu, n < fu → y + n = 20 → f_X4_figureBehind_2 fu S a (nI y) = some (fbe g n y) := by
  intro n
  induction n with
  | zero =>
    intro y fu h1 h2
    obtain ⟨fu, rfl⟩ : ∃ k, fu = k + 1 := ⟨fu - 1, by omega⟩
    unfold f_X4_figureBehind_2
    rw [if_neg (nI_pos (by omega))]
    simp only [getR_s hk, hr, Option.bind_some, alen_s (show 14 ≤ kd S e ∧ kd S e ≤ 20 by omega) le]
    rw [if_pos (nI_le (by omega) (by omega))]; rfl
  | succ n ih =>
    intro y fu h1 h2
    obtain ⟨fu, rfl⟩ : ∃ k, fu = k + 1 := ⟨fu - 1, by omega⟩
    unfold f_X4_figureBehind_2
    rw [if_neg (nI_pos (by omega))]
    simp only [getR_s hk, hr, Option.bind_some, alen_s (show 14 ≤ kd S e ∧ kd S e ≤ 20 by omega) le]
    rw [if_neg (nI_ge (by omega) (by omega))]
    simp only [ldI_s ke le (show y < 20 by omega) (by decide), hv y (by omega), Option.bind_some, nI_1]
    rw [ih (y + 1) fu (by omega) (by omega)]
    show _ = some (if g y = -1 then fbe g n (y + 1) else g y)
    split <;> rfl
/-- the figures of a firm -/
def fgs (M : MI) (f : Nat) : Nat → Int32 := fun y => M 56 (20 * f + y)
theorem CF.gok (cf : CF S xb M nf fa) (hf : f < nf) : gOK (fgs M f) := fun y hy => ((cf.2.2.2.1 f hf).2.2.2.2.2.2.2.2.1 y hy).2
theorem X_least (cf : CF S xb M nf fa) (hf : f < nf) {y : Nat} (hy : y < 20) : f_X4_leastIn S (fa f) (nI y) = some (lsv (fgs M f) y) := by
  obtain ⟨hk, -, -, -, -, hr, ke, le, hv, -⟩ := cf.2.2.2.1 f hf
  unfold f_X4_leastIn f_X4_figureAhead f_X4_figureBehind lsv
  simp only [rcv_s hk, X_fah (g := fgs M f) hk hr ke le (fun y hy => (hv y hy).1) y FU (by unfold FU; omega) hy, X_fbe (g := fgs M f) hk hr ke le (fun y hy => (hv y hy).1) (20 - y) y FU (by unfold FU; omega) (by omega), min_s, Option.bind_some]
  repeat' split
  all_goals first | rfl | contradiction
theorem X_great (cf : CF S xb M nf fa) (hf : f < nf) {y : Nat} (hy : y < 20) : f_X4_greatestIn S (fa f) (nI y) = some (gsv (fgs M f) y) := by
  obtain ⟨hk, -, -, -, -, hr, ke, le, hv, -⟩ := cf.2.2.2.1 f hf
  unfold f_X4_greatestIn f_X4_figureAhead f_X4_figureBehind gsv
  simp only [rcv_s hk, X_fah (g := fgs M f) hk hr ke le (fun y hy => (hv y hy).1) y FU (by unfold FU; omega) hy, X_fbe (g := fgs M f) hk hr ke le (fun y hy => (hv y hy).1) (20 - y) y FU (by unfold FU; omega) (by omega), max_s, Option.bind_some]
theorem M_b30 {mb : Nat} (m : MOK S mb) (hf : f < 8) (x2 x3 : Int32) : ∀ y fu, y + 1 < fu → y < 20 → ∃ r, f_X12_bound_30 fu S mb (nI f) x2 x3 (nI y) = some (mb, nI f, x2, x3, r) ∧ (fah (fgs (Mi S mb) f) y = -1 ∧ r = -1 ∨ ∃ z, z ≤ y ∧ r = nI z ∧ fgs (Mi S mb) f z = fah (fgs (Mi S mb) f) y ∧ fah (fgs (Mi S mb) f) y ≠ -1) := by
  intro y
  have e20 : ∀ z : Nat, (20 : Int32) * nI f + nI z = nI (20 * f + z) := fun z => by rw [show (20 : Int32) = nI 20 from rfl, pk_mul, nI_add]
  induction y with
  | zero =>
    intro fu h1 h2
    obtain ⟨fu, rfl⟩ : ∃ k, fu = k + 2 := ⟨fu - 2, by omega⟩
    unfold f_X12_bound_30
    rw [if_neg (by decide), e20]
    simp only [mR_figures m, mL_figures m (show 20 * f + 0 < 160 by omega), Option.bind_some]
    show ∃ r, (if fgs (Mi S mb) f 0 = -1 then _ else _) = _ ∧ _
    by_cases c : fgs (Mi S mb) f 0 = -1
    · rw [if_pos c]
      unfold f_X12_bound_30
      rw [if_pos (by decide)]
      exact ⟨_, rfl, Or.inl ⟨c, rfl⟩⟩
    · rw [if_neg c]
      exact ⟨_, rfl, Or.inr ⟨0, Nat.le_refl _, rfl, rfl, c⟩⟩
  | succ y ih =>
    intro fu h1 h2
    obtain ⟨fu, rfl⟩ : ∃ k, fu = k + 1 := ⟨fu - 1, by omega⟩
    unfold f_X12_bound_30
    rw [if_neg (nI_pos (by omega)), e20]
    simp only [mR_figures m, mL_figures m (show 20 * f + (y + 1) < 160 by omega), Option.bind_some, pk_m1]
    show ∃ r, (if fgs (Mi S mb) f (y + 1) = -1 then _ else _) = _ ∧ _
    by_cases c : fgs (Mi S mb) f (y + 1) = -1
    · rw [if_pos c]
      have e : fah (fgs (Mi S mb) f) (y + 1) = fah (fgs (Mi S mb) f) y := by
        show (if fgs (Mi S mb) f (y + 1) = -1 then _ else _) = _
        rw [if_pos c]
      obtain ⟨r, r1, r2⟩ := ih fu (by omega) (by omega)
      refine ⟨r, r1, ?_⟩
      rw [e]
      rcases r2 with q | ⟨z, z1, z2⟩
      · exact Or.inl q
      · exact Or.inr ⟨z, by omega, z2⟩
    · rw [if_neg c]
      have e : fah (fgs (Mi S mb) f) (y + 1) = fgs (Mi S mb) f (y + 1) := by
        show (if fgs (Mi S mb) f (y + 1) = -1 then _ else _) = _
        rw [if_neg c]
      exact ⟨_, rfl, Or.inr ⟨y + 1, Nat.le_refl _, rfl, e.symm, by rw [e]; exact c⟩⟩
theorem M_b60 {mb : Nat} (m : MOK S mb) (hf : f < 8) (x3 x4 : Int32) : ∀ n y fu, n < fu → y + n = 20 → ∃ r, f_X12_bound_60 fu S mb (nI f) x3 x4 (nI y) = some (mb, nI f, x3, x4, r) ∧ (fbe (fgs (Mi S mb) f) n y = -1 ∧ r = 20 ∨ ∃ z, z < 20 ∧ r = nI z ∧ fgs (Mi S mb) f z = fbe (fgs (Mi S mb) f) n y ∧ fbe (fgs (Mi S mb) f) n y ≠ -1) := by
  intro n
  have e20 : ∀ z : Nat, (20 : Int32) * nI f + nI z = nI (20 * f + z) := fun z => by rw [show (20 : Int32) = nI 20 from rfl, pk_mul, nI_add]
  induction n with
  | zero =>
    intro y fu h1 h2
    obtain ⟨fu, rfl⟩ : ∃ k, fu = k + 1 := ⟨fu - 1, by omega⟩
    unfold f_X12_bound_60
    have : y = 20 := by omega
    subst this
    rw [if_pos (by decide)]
    exact ⟨_, rfl, Or.inl ⟨rfl, rfl⟩⟩
  | succ n ih =>
    intro y fu h1 h2
    obtain ⟨fu, rfl⟩ : ∃ k, fu = k + 1 := ⟨fu - 1, by omega⟩
    unfold f_X12_bound_60
    rw [if_neg (by rw [le_i, nI_toInt (by omega)]; simp only [Int32.reduceToInt]; omega), e20]
    simp only [mR_figures m, mL_figures m (show 20 * f + y < 160 by omega), Option.bind_some, nI_1]
    show ∃ r, (if fgs (Mi S mb) f y = -1 then _ else _) = _ ∧ _
    by_cases c : fgs (Mi S mb) f y = -1
    · rw [if_pos c]
      have e : fbe (fgs (Mi S mb) f) (n + 1) y = fbe (fgs (Mi S mb) f) n (y + 1) := by
        show (if fgs (Mi S mb) f y = -1 then _ else _) = _
        rw [if_pos c]
      rw [e]
      exact ih (y + 1) fu (by omega) (by omega)
    · rw [if_neg c]
      have e : fbe (fgs (Mi S mb) f) (n + 1) y = fgs (Mi S mb) f y := by
        show (if fgs (Mi S mb) f y = -1 then _ else _) = _
        rw [if_neg c]
      exact ⟨_, rfl, Or.inr ⟨y, by omega, rfl, e.symm, by rw [e]; exact c⟩⟩
theorem M_bound {mb : Nat} (m : MOK S mb) (hf : f < 8) (hg : gOK (fgs (Mi S mb) f)) {y : Nat} (hy : y < 20) (gr : Bool) : f_X12_bound S mb (nI f) (nI y) (if gr then 1 else 0) = some (if gr then gsv (fgs (Mi S mb) f) y else lsv (fgs (Mi S mb) f) y) := by
  have e20 : ∀ z : Nat, (20 : Int32) * nI f + nI z = nI (20 * f + z) := fun z => by rw [show (20 : Int32) = nI 20 from rfl, pk_mul, nI_add]
  have fi := fah_in hg y hy
  have bi := fbe_in hg (20 - y) y (by omega)
  have m1 : ∀ v : Int32, v = -1 ↔ v.toInt = -1 := fun v => eq_i v (-1)
  have z0 : (0 : Int32).toInt = 0 := rfl
  have fin : ∀ v w : Int32, v.toInt = (if (fah (fgs (Mi S mb) f) y).toInt = -1 then 0 else (fah (fgs (Mi S mb) f) y).toInt) → w.toInt = (if (fbe (fgs (Mi S mb) f) (20 - y) y).toInt = -1 then 0 else (fbe (fgs (Mi S mb) f) (20 - y) y).toInt) → f_X12_bound_135 S (if gr then 1 else 0) v w = some (if gr then gsv (fgs (Mi S mb) f) y else lsv (fgs (Mi S mb) f) y) := by
    intro v w hv hw
    unfold f_X12_bound_135 gsv lsv
    cases gr
    · simp only [Bool.false_eq_true, if_false, if_true, le_i, lt_i, m1]
      by_cases c1 : (fah (fgs (Mi S mb) f) y).toInt = -1
      · rw [if_pos c1] at hv
        rw [if_pos c1]
        by_cases c2 : (fbe (fgs (Mi S mb) f) (20 - y) y).toInt = -1
        · rw [if_pos c2] at hw
          rw [if_pos (by omega)]
          congr 1
          rw [eq_i, hw]; rfl
        · rw [if_neg c2] at hw
          by_cases c3 : w.toInt ≤ v.toInt
          · rw [if_pos c3]
            congr 1
            rw [eq_i, z0]; omega
          · rw [if_neg c3]
            congr 1
            rw [eq_i, z0]; omega
      · rw [if_neg c1] at hv
        rw [if_neg c1]
        by_cases c2 : (fbe (fgs (Mi S mb) f) (20 - y) y).toInt = -1
        · rw [if_pos c2] at hw
          rw [if_pos c2]
          by_cases c3 : w.toInt ≤ v.toInt
          · rw [if_pos c3]
            congr 1
            rw [eq_i, z0]; omega
          · rw [if_neg c3]
            congr 1
            rw [eq_i, z0]; omega
        · rw [if_neg c2] at hw
          rw [if_neg c2]
          have ev : v = fah (fgs (Mi S mb) f) y := by rw [eq_i]; exact hv
          have ew : w = fbe (fgs (Mi S mb) f) (20 - y) y := by rw [eq_i]; exact hw
          rw [ev, ew]
          by_cases c3 : (fbe (fgs (Mi S mb) f) (20 - y) y).toInt ≤ (fah (fgs (Mi S mb) f) y).toInt
          · rw [if_pos c3]
            congr 1
            by_cases c4 : (fbe (fgs (Mi S mb) f) (20 - y) y).toInt < (fah (fgs (Mi S mb) f) y).toInt
            · rw [if_pos c4]
            · rw [if_neg c4, eq_i]; omega
          · rw [if_neg c3, if_neg (by omega)]
    · simp only [if_true, le_i, lt_i]
      rw [if_neg (show ¬ ((1 : Int32) = 0) by decide)]
      have hmx : (if (fah (fgs (Mi S mb) f) y).toInt < (fbe (fgs (Mi S mb) f) (20 - y) y).toInt then fbe (fgs (Mi S mb) f) (20 - y) y else fah (fgs (Mi S mb) f) y).toInt = if (fah (fgs (Mi S mb) f) y).toInt < (fbe (fgs (Mi S mb) f) (20 - y) y).toInt then (fbe (fgs (Mi S mb) f) (20 - y) y).toInt else (fah (fgs (Mi S mb) f) y).toInt := by
        split <;> rfl
      have key : ∀ r : Int32, r.toInt = (if 0 < (if (fah (fgs (Mi S mb) f) y).toInt < (fbe (fgs (Mi S mb) f) (20 - y) y).toInt then (fbe (fgs (Mi S mb) f) (20 - y) y).toInt else (fah (fgs (Mi S mb) f) y).toInt) then (if (fah (fgs (Mi S mb) f) y).toInt < (fbe (fgs (Mi S mb) f) (20 - y) y).toInt then (fbe (fgs (Mi S mb) f) (20 - y) y).toInt else (fah (fgs (Mi S mb) f) y).toInt) else 0) → r = if (0 : Int32).toInt < (if (fah (fgs (Mi S mb) f) y).toInt < (fbe (fgs (Mi S mb) f) (20 - y) y).toInt then fbe (fgs (Mi S mb) f) (20 - y) y else fah (fgs (Mi S mb) f) y).toInt then (if (fah (fgs (Mi S mb) f) y).toInt < (fbe (fgs (Mi S mb) f) (20 - y) y).toInt then fbe (fgs (Mi S mb) f) (20 - y) y else fah (fgs (Mi S mb) f) y) else 0 := by
        intro r hr
        rw [eq_i, hr, z0, hmx]
        by_cases c : 0 < (if (fah (fgs (Mi S mb) f) y).toInt < (fbe (fgs (Mi S mb) f) (20 - y) y).toInt then (fbe (fgs (Mi S mb) f) (20 - y) y).toInt else (fah (fgs (Mi S mb) f) y).toInt)
        · rw [if_pos c, if_pos c, hmx]
        · rw [if_neg c, if_neg c, z0]
      by_cases c3 : v.toInt ≤ w.toInt
      · rw [if_pos c3]
        congr 1
        apply key
        rw [hw]
        repeat' split
        all_goals omega
      · rw [if_neg c3]
        congr 1
        apply key
        rw [hv]
        repeat' split
        all_goals omega
  unfold f_X12_bound
  rw [e20]
  simp only [mR_figures m, mL_figures m (show 20 * f + y < 160 by omega), Option.bind_some]
  show (if fgs (Mi S mb) f y = -1 then _ else some (fgs (Mi S mb) f y)) = _
  by_cases c : fgs (Mi S mb) f y = -1
  · rw [if_pos c]
    obtain ⟨r, r1, r2⟩ := M_b30 m hf (nI y) (if gr then 1 else 0) y FU (by unfold FU; omega) hy
    obtain ⟨w, w1, w2⟩ := M_b60 m hf (if gr then 1 else 0) r (20 - y) y FU (by unfold FU; omega) (by omega)
    rw [r1]
    simp only [Option.bind_some, w1]
    unfold f_X12_bound_89 f_X12_bound_110
    rcases r2 with ⟨q1, q2⟩ | ⟨z, z1, z2, z3, z4⟩
    · rw [q2, if_neg (by decide)]
      have qv : (0 : Int32).toInt = (if (fah (fgs (Mi S mb) f) y).toInt = -1 then 0 else (fah (fgs (Mi S mb) f) y).toInt) := by rw [q1]; rfl
      rcases w2 with ⟨t1, t2⟩ | ⟨t, t1, t2, t3, t4⟩
      · rw [t2, if_pos rfl]
        exact fin 0 0 qv (by rw [t1]; rfl)
      · rw [t2, if_neg (by rw [show (20 : Int32) = nI 20 from rfl, nI_eq (by omega) (by omega)]; omega), e20]
        simp only [mR_figures m, mL_figures m (show 20 * f + t < 160 by omega), Option.bind_some]
        refine fin 0 _ qv ?_
        rw [if_neg (fun e => t4 ((m1 _).mpr e)), ← t3]; rfl
    · have qv : (mi S (mb + 56) (20 * f + z)).toInt = (if (fah (fgs (Mi S mb) f) y).toInt = -1 then 0 else (fah (fgs (Mi S mb) f) y).toInt) := by
        rw [if_neg (fun e => z4 ((m1 _).mpr e)), ← z3]; rfl
      rw [z2, if_pos (nI_pos' (by omega)), e20]
      simp only [mR_figures m, mL_figures m (show 20 * f + z < 160 by omega), Option.bind_some]
      rcases w2 with ⟨t1, t2⟩ | ⟨t, t1, t2, t3, t4⟩
      · rw [t2, if_pos rfl]
        exact fin _ 0 qv (by rw [t1]; rfl)
      · rw [t2, if_neg (by rw [show (20 : Int32) = nI 20 from rfl, nI_eq (by omega) (by omega)]; omega), e20]
        simp only [mL_figures m (show 20 * f + t < 160 by omega), Option.bind_some]
        refine fin _ _ qv ?_
        rw [if_neg (fun e => t4 ((m1 _).mpr e)), ← t3]; rfl
  · rw [if_neg c]
    have ea : fah (fgs (Mi S mb) f) y = fgs (Mi S mb) f y := by
      cases y with
      | zero => rfl
      | succ y =>
        show (if fgs (Mi S mb) f (y + 1) = -1 then _ else _) = _
        rw [if_neg c]
    have eb : fbe (fgs (Mi S mb) f) (20 - y) y = fgs (Mi S mb) f y := by
      obtain ⟨k, hk⟩ : ∃ k, 20 - y = k + 1 := ⟨20 - y - 1, by omega⟩
      rw [hk]
      show (if fgs (Mi S mb) f y = -1 then _ else _) = _
      rw [if_neg c]
    have hlt : ¬ fgs (Mi S mb) f y < fgs (Mi S mb) f y := by rw [lt_i]; omega
    have c' : (fgs (Mi S mb) f y).toInt ≠ -1 := fun e => c ((m1 _).mpr e)
    unfold gsv lsv
    rw [ea, eb, if_neg hlt, if_neg c, if_neg c]
    cases gr
    · rfl
    · show some _ = some (if (0 : Int32) < fgs (Mi S mb) f y then fgs (Mi S mb) f y else 0)
      congr 1
      by_cases c5 : (0 : Int32) < fgs (Mi S mb) f y
      · rw [if_pos c5]
      · rw [if_neg c5, eq_i, z0]
        rw [lt_i, z0] at c5
        have := (hg y hy).1
        omega
end Aud
def spn (g : Nat → Int32) (gr : Bool) (l : List Nat) (v : Int32) : Int32 := l.foldl (fun v y => v + if gr then gsv g y else lsv g y) v
section Aud2
variable {S : St} {xb nf f : Nat} {M : MI} {fa : Nat → Nat}
theorem X_span (cf : CF S xb M nf fa) (hf : f < nf) (gr : Bool) : ∀ n t fu v, t + n = 20 → n < fu → f_X11_spanEnd_4 fu S (some (fa f)) (if gr then 1 else 0) v (nI t) = some (spn (fgs M f) gr (List.range' t n) v) := by
  intro n
  have hk := (cf.2.2.2.1 f hf).1
  induction n with
  | zero =>
    intro t fu v h1 h2
    obtain ⟨fu, rfl⟩ : ∃ k, fu = k + 1 := ⟨fu - 1, by omega⟩
    unfold f_X11_spanEnd_4
    rw [show t = 20 by omega, if_pos (by decide)]; rfl
  | succ n ih =>
    intro t fu v h1 h2
    obtain ⟨fu, rfl⟩ : ∃ k, fu = k + 1 := ⟨fu - 1, by omega⟩
    unfold f_X11_spanEnd_4
    rw [if_neg (by rw [le_i, nI_toInt (by omega)]; simp only [Int32.reduceToInt]; omega)]
    simp only [rcv_s hk, X_least cf hf (show t < 20 by omega), X_great cf hf (show t < 20 by omega), Option.bind_some, nI_1]
    rw [ih (t + 1) fu _ (by omega) (by omega), ih (t + 1) fu _ (by omega) (by omega)]
    unfold spn
    rw [List.range'_succ, List.foldl_cons]
    cases gr
    · rw [if_pos (by decide)]; rfl
    · rw [if_neg (by decide)]; rfl
theorem M_span {mb : Nat} (m : MOK S mb) (hf : f < 8) (hg : gOK (fgs (Mi S mb) f)) (gr : Bool) : ∀ n t fu v, t + n = 20 → n < fu → f_X12_audit_24 fu S mb (nI f) (if gr then 1 else 0) v (nI t) = some (spn (fgs (Mi S mb) f) gr (List.range' t n) v) := by
  intro n
  induction n with
  | zero =>
    intro t fu v h1 h2
    obtain ⟨fu, rfl⟩ : ∃ k, fu = k + 1 := ⟨fu - 1, by omega⟩
    unfold f_X12_audit_24
    rw [show t = 20 by omega, if_pos (by decide)]; rfl
  | succ n ih =>
    intro t fu v h1 h2
    obtain ⟨fu, rfl⟩ : ∃ k, fu = k + 1 := ⟨fu - 1, by omega⟩
    have g1 := M_bound m hf hg (show t < 20 by omega) true
    have g0 := M_bound m hf hg (show t < 20 by omega) false
    simp only [if_true, Bool.false_eq_true, if_false] at g1 g0
    unfold f_X12_audit_24 f_X12_audit_46
    rw [if_neg (by rw [le_i, nI_toInt (by omega)]; simp only [Int32.reduceToInt]; omega)]
    simp only [mV m, g1, g0, Option.bind_some, nI_1]
    rw [ih (t + 1) fu _ (by omega) (by omega), ih (t + 1) fu _ (by omega) (by omega)]
    unfold spn
    rw [List.range'_succ, List.foldl_cons]
    cases gr
    · rw [if_neg (by decide)]; rfl
    · rw [if_pos (by decide)]; rfl
end Aud2
theorem op_audit {S : St} {xb k : Nat} (h : JJ S xb (k + 1)) (f w : Int32) : ∃ r, f_X11_audit S xb f w = some r ∧ f_X12_audit S (xb + 22) f w = some r := by
  obtain ⟨⟨g', j⟩, rm1, rm2⟩ := id h
  obtain ⟨nf, fa, np, pa, na, aa, ne, ea, il, nc, ca, rfl, b, c0, ct, cy, cf, cp, cn, ca', ce, cc, cl⟩ := j.op
  have x := b.2.2.1
  have m := b.2.2.2.1
  have s1 : mi S (xb + 22) 1 = nI nf := cf.1
  have n8 := cf.2.1
  rcases ixc f (n := nf) (by omega) with ⟨i, hi, rfl⟩ | c1
  · have hk := (cf.2.2.2.1 i hi).1
    have hg := cf.gok hi
    have hX : f_X11_audit S xb (nI i) w = some (if 0 ≤ w.toInt ∧ w.toInt ≤ 1 then spn (fgs (Mi S (xb + 22)) i) (decide (w.toInt = 1)) (List.range 20) 0 else if 10 ≤ w.toInt ∧ w.toInt ≤ 29 then lsv (fgs (Mi S (xb + 22)) i) (w.toInt.toNat - 10) else if 40 ≤ w.toInt ∧ w.toInt ≤ 59 then gsv (fgs (Mi S (xb + 22)) i) (w.toInt.toNat - 40) else -1) := by
      unfold f_X11_audit f_X11_audit_21 f_X11_audit_32 f_X11_audit_57 f_X11_spanEnd
      simp only [xV x, X_firmAt x cf.2.2.1 hk hi, Option.bind_some, if_neg (show ¬ (some (fa i) = none) by simp), rcv_s hk]
      have g1 := X_span cf hi true 20 0 FU 0 (by omega) (by unfold FU; omega)
      have g0 := X_span cf hi false 20 0 FU 0 (by omega) (by unfold FU; omega)
      simp only [if_true, Bool.false_eq_true, if_false, nI_0, ← List.range_eq_range'] at g1 g0
      rw [g1, g0]
      simp only [Option.bind_some]
      have w0 : w = 0 ↔ w.toInt = 0 := eq_i w 0
      have w1 : w = 1 ↔ w.toInt = 1 := eq_i w 1
      by_cases d0 : w = 0
      · have := w0.mp d0
        rw [if_pos d0, if_neg (by rw [d0]; decide), if_pos (by omega), this]
        rfl
      · rw [if_neg d0]
        have e0 : w.toInt ≠ 0 := fun q => d0 (w0.mpr q)
        by_cases d1 : w = 1
        · have := w1.mp d1
          rw [if_pos d1, if_pos d1, if_pos (by omega), this]
          rfl
        · rw [if_neg d1]
          have e1 : w.toInt ≠ 1 := fun q => d1 (w1.mpr q)
          rw [if_neg (show ¬ (0 ≤ w.toInt ∧ w.toInt ≤ 1) by omega)]
          simp only [lt_i, le_i, Int32.reduceToInt]
          by_cases d2 : 10 ≤ w.toInt ∧ w.toInt ≤ 29
          · obtain ⟨t, t1, rfl⟩ := nI_of (x := w) (by rw [lt_i]; simp only [Int32.reduceToInt]; omega)
            rw [nI_toInt t1] at d2 ⊢
            rw [if_neg (by omega), if_neg (by omega), show nI t - 10 = nI (t - 10) by rw [show (10 : Int32) = nI 10 from rfl, pk_sub (by omega)], X_least cf hi (show t - 10 < 20 by omega), if_pos d2]
            simp only [Option.bind_some, Int.toNat_natCast]
          · rw [if_neg d2]
            by_cases d3 : 40 ≤ w.toInt ∧ w.toInt ≤ 59
            · obtain ⟨t, t1, rfl⟩ := nI_of (x := w) (by rw [lt_i]; simp only [Int32.reduceToInt]; omega)
              rw [nI_toInt t1] at d3 ⊢
              rw [if_neg (by omega), if_pos (by omega), if_neg (by omega), if_neg (by omega), show nI t - 40 = nI (t - 40) by rw [show (40 : Int32) = nI 40 from rfl, pk_sub (by omega)], X_great cf hi (show t - 40 < 20 by omega), if_pos d3]
              simp only [Option.bind_some, Int.toNat_natCast]
            · rw [if_neg d3]
              have e57 : (if w.toInt < 40 then some (-1) else if 60 ≤ w.toInt then some (-1) else (f_X4_greatestIn S (fa i) (w - 40)).bind fun v74 => some v74) = some (-1 : Int32) := by
                by_cases q : w.toInt < 40
                · rw [if_pos q]
                · rw [if_neg q, if_pos (by omega)]
              rw [e57]
              by_cases q : w.toInt < 10
              · rw [if_pos q]
              · rw [if_neg q, if_pos (by omega)]
    have hM : f_X12_audit S (xb + 22) (nI i) w = some (if 0 ≤ w.toInt ∧ w.toInt ≤ 1 then spn (fgs (Mi S (xb + 22)) i) (decide (w.toInt = 1)) (List.range 20) 0 else if 10 ≤ w.toInt ∧ w.toInt ≤ 29 then lsv (fgs (Mi S (xb + 22)) i) (w.toInt.toNat - 10) else if 40 ≤ w.toInt ∧ w.toInt ≤ 59 then gsv (fgs (Mi S (xb + 22)) i) (w.toInt.toNat - 40) else -1) := by
      unfold f_X12_audit
      simp only [mV m, M_isFirm m s1 (by omega) hi, Option.bind_some, M_isIn, i01, Int32.reduceToInt]
      rw [if_neg (show ¬ ((1 : Int32) = 0) by decide)]
      by_cases d1 : 0 ≤ w.toInt ∧ w.toInt ≤ 1
      · rw [if_neg (fun q => q d1), if_pos d1]
        have ew : w = if decide (w.toInt = 1) then 1 else 0 := by
          by_cases q : w.toInt = 1
          · rw [if_pos (by simpa using q), eq_i]; exact q
          · rw [if_neg (by simpa using q), eq_i]
            simp only [Int32.reduceToInt]; omega
        have g := M_span m (show i < 8 by omega) hg (decide (w.toInt = 1)) 20 0 FU 0 (by omega) (by unfold FU; omega)
        rw [← ew, nI_0, ← List.range_eq_range'] at g
        exact g
      · rw [if_pos d1, if_neg d1]
        by_cases d2 : 10 ≤ w.toInt ∧ w.toInt ≤ 29
        · obtain ⟨t, t1, rfl⟩ := nI_of (x := w) (by rw [lt_i]; simp only [Int32.reduceToInt]; omega)
          rw [nI_toInt t1] at d2 ⊢
          have g := M_bound m (show i < 8 by omega) hg (show t - 10 < 20 by omega) false
          simp only [Bool.false_eq_true, if_false] at g
          rw [if_neg (by omega), show nI t - 10 = nI (t - 10) by rw [show (10 : Int32) = nI 10 from rfl, pk_sub (by omega)], g, if_pos d2]
          simp only [Option.bind_some, Int.toNat_natCast]
        · rw [if_pos d2, if_neg d2]
          by_cases d3 : 40 ≤ w.toInt ∧ w.toInt ≤ 59
          · obtain ⟨t, t1, rfl⟩ := nI_of (x := w) (by rw [lt_i]; simp only [Int32.reduceToInt]; omega)
            rw [nI_toInt t1] at d3 ⊢
            have g := M_bound m (show i < 8 by omega) hg (show t - 40 < 20 by omega) true
            simp only [if_true] at g
            rw [if_neg (by omega), show nI t - 40 = nI (t - 40) by rw [show (40 : Int32) = nI 40 from rfl, pk_sub (by omega)], g, if_pos d3]
            simp only [Option.bind_some, Int.toNat_natCast]
          · rw [if_pos d3, if_neg d3]
    exact ⟨_, hX, hM⟩
  · refine ⟨-1, ?_, ?_⟩
    · unfold f_X11_audit
      simp only [xV x, X_firmAt_n x cf.2.2.1 c1, Option.bind_some, if_true]
    · unfold f_X12_audit
      simp only [mV m, M_isFirm_n m s1 (by omega) c1, Option.bind_some, if_true]
