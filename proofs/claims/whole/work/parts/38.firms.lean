/-! FIRMS: whose accounts they are on a day -/
theorem cntB_le (p : Nat → Bool) (n : Nat) : cntB p n ≤ n := by
  induction n with
  | zero => exact Nat.le_refl _
  | succ n ih => unfold cntB; split <;> omega
theorem cntB_mono {p q : Nat → Bool} {n : Nat} (h : ∀ x, x < n → p x = true → q x = true) : cntB p n ≤ cntB q n := by
  induction n with
  | zero => exact Nat.le_refl _
  | succ n ih =>
    have := ih (fun x hx => h x (by omega))
    unfold cntB
    by_cases c : p n = true
    · rw [if_pos c, if_pos (h n (by omega) c)]; omega
    · rw [if_neg c]; omega
theorem cntB_lt {p q : Nat → Bool} {n : Nat} (h : ∀ x, x < n → p x = true → q x = true) {i : Nat} (hi : i < n) (hq : q i = true) (hp : p i ≠ true) : cntB p n < cntB q n := by
  induction n with
  | zero => omega
  | succ n ih =>
    unfold cntB
    by_cases c : i = n
    · subst c
      have := cntB_mono (n := i) (fun x hx => h x (by omega))
      rw [if_neg hp, if_pos hq]; omega
    · have := ih (fun x hx => h x (by omega)) (by omega)
      by_cases c : p n = true
      · rw [if_pos c, if_pos (h n (by omega) c)]; omega
      · rw [if_neg c]; omega
theorem cntB_congr {p q : Nat → Bool} {n : Nat} (h : ∀ x, x < n → p x = q x) : cntB p n = cntB q n := by
  induction n with
  | zero => rfl
  | succ n ih => unfold cntB; rw [ih (fun x hx => h x (by omega)), h n (by omega)]
/-- merged on a day or ahead -/
abbrev mgd (M : MI) (d : Int32) (i : Nat) : Prop := M 2 i ≠ -1 ∧ (M 3 i).toInt ≤ d.toInt
def fo (M : MI) (d : Int32) : Nat → Nat → Nat
  | 0, i => i
  | n + 1, i => if M 2 i ≠ -1 ∧ (M 3 i).toInt ≤ d.toInt then fo M d n (M 2 i).toNatClampNeg else i
section Firms
variable {S : St} {xb : Nat} {M : MI} {nf : Nat} {fa : Nat → Nat}
theorem CF.into (h : CF S xb M nf fa) {i : Nat} (hi : i < nf) {d : Int32} (c : mgd M d i) : ∃ j, j < nf ∧ M 2 i = nI j ∧ (M 2 i).toNatClampNeg = j ∧ mr S (fa i) 2 = some (fa j) ∧ mi S (fa i) 3 = M 3 i ∧ (M 2 j ≠ -1 → (M 3 i).toInt < (M 3 j).toInt) := by
  rcases (h.2.2.2.1 i hi).2.2.2.2.2.2.2.2.2 with e | ⟨j, h1, h2, h3, h4, h5⟩
  · exact absurd e.1 c.1
  · exact ⟨j, h1, h2, by rw [h2, nI_clamp (by have := h.2.1; omega)], h3, h4, h5⟩
theorem fo_lt (h : CF S xb M nf fa) (d : Int32) : ∀ (n i : Nat), i < nf → fo M d n i < nf
  | 0, i, hi => hi
  | n + 1, i, hi => by
    unfold fo
    by_cases c : mgd M d i
    · obtain ⟨j, j1, j2, j3, -⟩ := h.into hi c
      rw [if_pos c, j3]; exact fo_lt h d n j j1
    · rw [if_neg c]; exact hi
theorem fo_end (h : CF S xb M nf fa) (d : Int32) : ∀ (n i : Nat), i < nf → cntB (fun x => decide (M 2 x ≠ -1 ∧ (M 3 x).toInt ≤ d.toInt) && decide ((M 3 i).toInt ≤ (M 3 x).toInt)) nf ≤ n → ¬ mgd M d (fo M d n i)
  | 0, i, hi, hc => by
    intro c
    change mgd M d i at c
    have : cntB (fun _ => false) nf < cntB (fun x => decide (M 2 x ≠ -1 ∧ (M 3 x).toInt ≤ d.toInt) && decide ((M 3 i).toInt ≤ (M 3 x).toInt)) nf := cntB_lt (by simp) hi (by have := c.1; have := c.2; simp_all) (by simp)
    omega
  | n + 1, i, hi, hc => by
    unfold fo
    by_cases c : mgd M d i
    · obtain ⟨j, j1, j2, j3, j4, j5, j6⟩ := h.into hi c
      rw [if_pos c, j3]
      by_cases cj : mgd M d j
      · refine fo_end h d n j j1 ?_
        have h6 := j6 cj.1
        have : cntB (fun x => decide (M 2 x ≠ -1 ∧ (M 3 x).toInt ≤ d.toInt) && decide ((M 3 j).toInt ≤ (M 3 x).toInt)) nf < cntB (fun x => decide (M 2 x ≠ -1 ∧ (M 3 x).toInt ≤ d.toInt) && decide ((M 3 i).toInt ≤ (M 3 x).toInt)) nf := by
          refine cntB_lt (fun x hx hq => ?_) hi ?_ ?_
          · simp only [Bool.and_eq_true, decide_eq_true_eq] at hq ⊢
            exact ⟨hq.1, by omega⟩
          · show (decide _ && decide _) = true
            rw [Bool.and_eq_true, decide_eq_true_eq, decide_eq_true_eq]
            exact ⟨c, Int.le_refl _⟩
          · show ¬ (decide _ && decide _) = true
            rw [Bool.and_eq_true, decide_eq_true_eq, decide_eq_true_eq]
            intro hq; omega
        omega
      · have : fo M d n j = j := by
          cases n with
          | zero => rfl
          | succ n => unfold fo; rw [if_neg cj]
        rw [this]; exact cj
    · rw [if_neg c]; exact c
theorem fo8 (h : CF S xb M nf fa) (d : Int32) {i : Nat} (hi : i < nf) : ¬ mgd M d (fo M d 8 i) := fo_end h d 8 i hi (by have := cntB_le (fun x => decide (M 2 x ≠ -1 ∧ (M 3 x).toInt ≤ d.toInt) && decide ((M 3 i).toInt ≤ (M 3 x).toInt)) nf; have := h.2.1; omega)
theorem X_holder4 (h : CF S xb M nf fa) (d : Int32) : ∀ (n t i fu : Nat), t + n = 8 → n < fu → i < nf → f_X11_holderOn_4 fu S d (some (fa i)) (nI t) = some (some (fa (fo M d n i)))
  | n, t, i, 0, _, h2, _ => by omega
  | 0, t, i, fu + 1, h1, _, hi => by
    unfold f_X11_holderOn_4
    rw [show t = 8 by omega, if_pos (by decide)]; rfl
  | n + 1, t, i, fu + 1, h1, h2, hi => by
    unfold f_X11_holderOn_4
    have hk := (h.2.2.2.1 i hi).1
    rw [if_neg (by rw [le_i, nI_toInt (by omega)]; simp only [Int32.reduceToInt]; omega)]
    simp only [getR_s hk, getI_s hk, Option.bind_some]
    unfold fo
    rcases (h.2.2.2.1 i hi).2.2.2.2.2.2.2.2.2 with e | ⟨j, j1, j2, j3, j4, j5⟩
    · rw [e.2, if_pos rfl, if_neg (fun z => z.1 e.1)]
    · rw [j3, j4, if_neg (by simp)]
      have hm : M 2 i ≠ -1 := by
        rw [j2, Ne, eq_i, nI_toInt (by have := h.2.1; omega)]; simp only [Int32.reduceToInt]; omega
      by_cases c : d.toInt < (M 3 i).toInt
      · rw [if_pos (by rw [lt_i]; exact c), if_neg (by omega)]
      · rw [if_neg (by rw [lt_i]; exact c), if_pos ⟨hm, by omega⟩, nI_1, X_holder4 h d n (t + 1) j fu (by omega) (by omega) j1, j2, nI_clamp (by have := h.2.1; omega)]
theorem X_holder (h : CF S xb M nf fa) (d : Int32) {i : Nat} (hi : i < nf) : f_X11_holderOn S (some (fa i)) d = some (some (fa (fo M d 8 i))) := X_holder4 h d 8 0 i FU (by omega) (by unfold FU; omega) hi
theorem M_isMerged {mb : Nat} (m : MOK S mb) (d : Int32) {i : Nat} (hi : i < 8) : f_X12_isMerged S mb (nI i) d = some (if (Mi S mb) 2 i ≠ -1 ∧ ((Mi S mb) 3 i).toInt ≤ d.toInt then 1 else 0) := by
  unfold f_X12_isMerged
  simp only [mR_mergedInto m, mL_mergedInto m hi, mR_mergedOn m, mL_mergedOn m hi, Option.bind_some, lt_i]
  show (if Mi S mb 2 i = -1 then _ else if _ < (Mi S mb 3 i).toInt then _ else _) = _
  repeat' split
  all_goals first | rfl | (exfalso; omega) | (simp_all; done) | (exfalso; simp_all; omega)
theorem M_firmOf2 {mb : Nat} {T : St} (m : MOK S mb) (h : CF T xb (Mi S mb) nf fa) (d : Int32) : ∀ (n i fu : Nat), n < fu → i < nf → ¬ mgd (Mi S mb) d (fo (Mi S mb) d n i) → f_X12_firmOf_2 fu S mb d (nI i) = some (nI (fo (Mi S mb) d n i))
  | n, i, 0, h1, _, _ => by omega
  | 0, i, fu + 1, h1, hi, hn => by
    unfold f_X12_firmOf_2
    change ¬ mgd (Mi S mb) d i at hn
    simp only [mV m, M_isMerged m d (show i < 8 by have := h.2.1; omega), Option.bind_some, i01]
    rw [if_pos hn]; rfl
  | n + 1, i, fu + 1, h1, hi, hn => by
    unfold f_X12_firmOf_2
    simp only [mV m, M_isMerged m d (show i < 8 by have := h.2.1; omega), Option.bind_some, i01]
    unfold fo at hn ⊢
    by_cases c : mgd (Mi S mb) d i
    · obtain ⟨j, j1, j2, j3, -⟩ := h.into hi c
      rw [if_pos c, j3] at hn
      rw [if_neg (fun z => z c), if_pos c, j3]
      simp only [mR_mergedInto m, mL_mergedInto m (show i < 8 by have := h.2.1; omega), Option.bind_some]
      rw [show mi S (mb + 2) i = nI j from j2]
      exact M_firmOf2 m h d n j fu (by omega) j1 hn
    · rw [if_neg c] at hn
      rw [if_pos c, if_neg c]
theorem M_firmOf {mb : Nat} {T : St} (m : MOK S mb) (h : CF T xb (Mi S mb) nf fa) (d : Int32) {i : Nat} (hi : i < nf) : f_X12_firmOf S mb (nI i) d = some (nI (fo (Mi S mb) d 8 i)) := M_firmOf2 m h d 8 i FU (by unfold FU; omega) hi (fo8 h d hi)
end Firms
theorem op_firmOn {S : St} {xb k : Nat} (h : JJ S xb (k + 1)) (f d : Int32) : ∃ r, f_X11_firmOn S xb f d = some r ∧ f_X12_firmOn S (xb + 22) f d = some r := by
  obtain ⟨⟨g, j⟩, -⟩ := id h
  obtain ⟨nf, fa, np, pa, na, aa, ne, ea, il, nc, ca, rfl, b, c0, ct, cy, cf, cp, cn, ca', ce, cc, cl⟩ := j.op
  have x := b.2.2.1
  have m := b.2.2.2.1
  obtain ⟨p1, p2, p3, p4, p5⟩ := id cf
  have p1 : mi S (xb + 22) 1 = nI nf := p1
  unfold f_X11_firmOn f_X12_firmOn
  rcases ixc f (n := nf) (by omega) with ⟨i, hi, rfl⟩ | c1
  · have hk := (p4 i hi).1
    simp only [xV x, mV m, X_firmAt x p3 hk hi, M_isFirm m p1 (by omega) hi, Option.bind_some, if_neg (show ¬ (some (fa i) = none) by simp), M_isIn, i01, lt_i, le_i, Int32.reduceToInt, X_holder cf d hi, M_firmOf m cf d hi]
    have hf := fo_lt cf d 8 i hi
    rw [getI_s (p4 _ hf).1, (p4 _ hf).2.2.1]
    rw [if_neg (show ¬ ((1 : Int32) = 0) by decide)]
    simp only [Option.bind_some]
    by_cases c2 : d.toInt < 0
    · rw [if_pos c2, if_pos (by omega)]; exact ⟨_, rfl, rfl⟩
    · rw [if_neg c2]
      by_cases c3 : d.toInt ≤ 19999
      · rw [if_pos c3, if_neg (by omega)]; exact ⟨_, rfl, rfl⟩
      · rw [if_neg c3, if_pos (by omega)]; exact ⟨_, rfl, rfl⟩
  · simp only [xV x, mV m, X_firmAt_n x p3 c1, M_isFirm_n m p1 (by omega) c1, Option.bind_some, if_true]
    exact ⟨_, rfl, rfl⟩
