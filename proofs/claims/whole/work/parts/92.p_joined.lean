theorem fst_ix {p : Nat} : ∀ {l : List Nat}, p ∈ l → ∃ i, i < l.length ∧ l.getD i 0 = p ∧ ∀ j, j < i → l.getD j 0 ≠ p := by
  intro l
  induction l with
  | nil => intro h; cases h
  | cons a l ih =>
    intro h
    by_cases e : a = p
    · exact ⟨0, by rw [List.length_cons]; omega, e, fun j hj => by omega⟩
    · rcases List.mem_cons.mp h with q | q
      · exact absurd q.symm e
      · obtain ⟨i, i1, i2, i3⟩ := ih q
        refine ⟨i + 1, by rw [List.length_cons]; omega, i2, fun j hj => ?_⟩
        cases j with
        | zero => exact e
        | succ j => exact i3 j (by omega)
theorem not_ix {p : Nat} {l : List Nat} (h : p ∉ l) (j : Nat) (hj : j < l.length) : l.getD j 0 ≠ p := fun e => h (by
  rw [← e, List.getD_eq_getElem?_getD, List.getElem?_eq_getElem hj]
  exact List.getElem_mem hj)
section Joined
variable {S : St} {xb np p : Nat} {M : MI} {pa : Nat → Nat} {l : List Nat}
theorem X_sb_y (x : XOK S xb) (cp : CP S xb M np pa) (hs : SE S xb pa l) (h8 : l.length ≤ 8) (hl : ∀ i, i < l.length → l.getD i 0 < np) (hp : p < np) {i : Nat} (hi : i < l.length) (e : l.getD i 0 = p) (hb : ∀ j, j < i → l.getD j 0 ≠ p) : ∀ (r t fu : Nat), t + r = i → r < fu → f_X5_seatBit_2 fu S (xb + 12) (some (pa p)) (nI t) = some (nI (2 ^ i)) := by
  intro r
  induction r with
  | zero =>
    intro t fu e1 e2
    obtain ⟨fu, rfl⟩ : ∃ k, fu = k + 1 := ⟨fu - 1, by omega⟩
    have : t = i := by omega
    subst this
    unfold f_X5_seatBit_2
    simp only [getI_s (xK_joining x), hs.1, xR_seats x, xZ_seats x, xL_seats x (show t < 8 by omega), hs.2 t hi, e, Option.bind_some]
    rw [if_neg (nI_ge (by omega) (by omega)), if_neg (by rw [le_i, nI_toInt (by omega)]; simp only [Int32.reduceToInt]; omega), if_pos True.intro, sl_i (by omega)]
  | succ r ih =>
    intro t fu e1 e2
    obtain ⟨fu, rfl⟩ : ∃ k, fu = k + 1 := ⟨fu - 1, by omega⟩
    unfold f_X5_seatBit_2
    simp only [getI_s (xK_joining x), hs.1, xR_seats x, xZ_seats x, xL_seats x (show t < 8 by omega), hs.2 t (by omega), Option.bind_some, nI_1]
    rw [if_neg (nI_ge (by omega) (by omega)), if_neg (by rw [le_i, nI_toInt (by omega)]; simp only [Int32.reduceToInt]; omega), if_neg (fun z => hb t (by omega) (cp.inj (hl t (by omega)) hp (Option.some.inj z)))]
    exact ih (t + 1) fu (by omega) (by omega)
theorem X_sb_n (x : XOK S xb) (cp : CP S xb M np pa) (hs : SE S xb pa l) (h8 : l.length ≤ 8) (hl : ∀ i, i < l.length → l.getD i 0 < np) (hp : p < np) (hb : ∀ j, j < l.length → l.getD j 0 ≠ p) : ∀ (r t fu : Nat), t + r = l.length → r < fu → f_X5_seatBit_2 fu S (xb + 12) (some (pa p)) (nI t) = some 0 := by
  intro r
  induction r with
  | zero =>
    intro t fu e1 e2
    obtain ⟨fu, rfl⟩ : ∃ k, fu = k + 1 := ⟨fu - 1, by omega⟩
    unfold f_X5_seatBit_2
    simp only [getI_s (xK_joining x), hs.1, Option.bind_some]
    rw [if_pos (nI_le (by omega) (by omega))]
  | succ r ih =>
    intro t fu e1 e2
    obtain ⟨fu, rfl⟩ : ∃ k, fu = k + 1 := ⟨fu - 1, by omega⟩
    unfold f_X5_seatBit_2
    simp only [getI_s (xK_joining x), hs.1, xR_seats x, xZ_seats x, xL_seats x (show t < 8 by omega), hs.2 t (by omega), Option.bind_some, nI_1]
    rw [if_neg (nI_ge (by omega) (by omega)), if_neg (by rw [le_i, nI_toInt (by omega)]; simp only [Int32.reduceToInt]; omega), if_neg (fun z => hb t (by omega) (cp.inj (hl t (by omega)) hp (Option.some.inj z)))]
    exact ih (t + 1) fu (by omega) (by omega)
theorem X_seatBit (x : XOK S xb) (cp : CP S xb M np pa) (hs : SE S xb pa l) (h8 : l.length ≤ 8) (hl : ∀ i, i < l.length → l.getD i 0 < np) (hp : p < np) : (p ∉ l ∧ f_X5_seatBit S (xb + 12) (some (pa p)) = some 0) ∨ ∃ i, i < l.length ∧ l.getD i 0 = p ∧ (∀ j, j < i → l.getD j 0 ≠ p) ∧ f_X5_seatBit S (xb + 12) (some (pa p)) = some (nI (2 ^ i)) := by
  unfold f_X5_seatBit
  by_cases c : p ∈ l
  · obtain ⟨i, i1, i2, i3⟩ := fst_ix c
    have g := X_sb_y x cp hs h8 hl hp i1 i2 i3 i 0 FU (by omega) (by unfold FU; omega)
    rw [nI_0] at g
    exact Or.inr ⟨i, i1, i2, i3, g⟩
  · have g := X_sb_n x cp hs h8 hl hp (not_ix c) l.length 0 FU (by omega) (by unfold FU; omega)
    rw [nI_0] at g
    exact Or.inl ⟨c, g⟩
theorem M_j57 {T : St} {y3 y5 : Int32} (m : MOK T (xb + 22)) (hs : ∀ j, j < l.length → mi T (xb + 22 + 43) j = nI (l.getD j 0)) (h8 : l.length ≤ 8) (hl : ∀ i, i < l.length → l.getD i 0 < 24) (hp : p < 24) {i : Nat} (hi : i < l.length) (e : l.getD i 0 = p) (hb : ∀ j, j < i → l.getD j 0 ≠ p) : ∀ (r t fu : Nat), t + r = i → r < fu → f_X12_joined_57 fu T (xb + 22) (nI p) y3 (nI t) y5 = some (xb + 22, y3, nI i, y5, T) := by
  intro r
  induction r with
  | zero =>
    intro t fu e1 e2
    obtain ⟨fu, rfl⟩ : ∃ k, fu = k + 1 := ⟨fu - 1, by omega⟩
    have : t = i := by omega
    subst this
    unfold f_X12_joined_57
    simp only [mR_inSet m, mL_inSet m (show t < 8 by omega), hs t hi, e, Option.bind_some]
    rw [if_pos True.intro]
  | succ r ih =>
    intro t fu e1 e2
    obtain ⟨fu, rfl⟩ : ∃ k, fu = k + 1 := ⟨fu - 1, by omega⟩
    unfold f_X12_joined_57
    simp only [mR_inSet m, mL_inSet m (show t < 8 by omega), hs t (by omega), Option.bind_some, nI_1]
    rw [if_neg (fun z => hb t (by omega) ((nI_eq (by have := hl t (by omega); omega) (by omega)).mp z))]
    exact ih (t + 1) fu (by omega) (by omega)
theorem M_j74 {T : St} {y4 : Int32} (m : MOK T (xb + 22)) (hs : ∀ j, j < l.length → mi T (xb + 22 + 43) j = nI (l.getD j 0)) (h8 : l.length ≤ 8) (hl : ∀ i, i < l.length → l.getD i 0 < 24) (hp : p < 24) {i : Nat} (hi : i < l.length) (e : l.getD i 0 = p) (hb : ∀ j, j < i → l.getD j 0 ≠ p) : ∀ (r t fu : Nat), t + r = i → r < fu → f_X12_joined_74 fu T (xb + 22) (nI p) y4 (nI t) = some (xb + 22, y4, nI i, T) := by
  intro r
  induction r with
  | zero =>
    intro t fu e1 e2
    obtain ⟨fu, rfl⟩ : ∃ k, fu = k + 1 := ⟨fu - 1, by omega⟩
    have : t = i := by omega
    subst this
    unfold f_X12_joined_74
    simp only [mR_inSet m, mL_inSet m (show t < 8 by omega), hs t hi, e, Option.bind_some]
    rw [if_pos True.intro]
  | succ r ih =>
    intro t fu e1 e2
    obtain ⟨fu, rfl⟩ : ∃ k, fu = k + 1 := ⟨fu - 1, by omega⟩
    unfold f_X12_joined_74
    simp only [mR_inSet m, mL_inSet m (show t < 8 by omega), hs t (by omega), Option.bind_some, nI_1]
    rw [if_neg (fun z => hb t (by omega) ((nI_eq (by have := hl t (by omega); omega) (by omega)).mp z))]
    exact ih (t + 1) fu (by omega) (by omega)
end Joined
theorem jd_go {F : Nat} {T : St} {x0 : Nat} {x2 x3 a b : Int32} (h1 : f_X12_joined_57 F T x0 x2 x3 0 0 = some (x0, x3, a, 0, T)) (h2 : f_X12_joined_74 F T x0 x3 a 0 = some (x0, a, b, T)) : ((f_X12_joined_57 F T x0 x2 x3 0 0).bind fun (x0, x3_57, x4_57, x5_57, S_57) => (f_X12_joined_74 F S_57 x0 x3_57 x4_57 x5_57).bind fun (x0, x4_74, x5_74, S_74) => (getR S_74 (some x0) 13 62).bind fun v92 =>
    (ldI S_74 v92 15 ((8 * x4_74) + x5_74)).bind fun v103 =>
    (getI S_74 (some x0) 13 65).bind fun v109 =>
    (if v103 = v109 then
    some (2, S_74)
    else
    (if v103 ≤ 0 then
    some (0, S_74)
    else
    some ((1 : Int32), S_74)))) = (getR T (some x0) 13 62).bind fun v92 =>
    (ldI T v92 15 ((8 * a) + b)).bind fun v103 =>
    (getI T (some x0) 13 65).bind fun v109 =>
    (if v103 = v109 then
    some (2, T)
    else
    (if v103 ≤ 0 then
    some (0, T)
    else
    some ((1 : Int32), T))) := by
  rw [h1]
  simp only [Option.bind_some]
  rw [h2]
  rfl
theorem bcount (S : St) {i k : Nat} (hi : i < 8) (hk : k < 8) : f_J6_bitCount_0f7a4 S (nI (2 ^ i) ||| nI (2 ^ k)) = some (if i = k then 1 else 2) ∧ f_J6_bitCount_0f7a4 S (nI (2 ^ i) ||| 0) = some 1 ∧ f_J6_bitCount_0f7a4 S (0 ||| nI (2 ^ i)) = some 1 := by
  have h := List.all_eq_true.mp (List.all_eq_true.mp bt_ok i (List.mem_range.mpr hi)) k (List.mem_range.mpr hk)
  simp only [Bool.and_eq_true, decide_eq_true_eq] at h
  exact ⟨h.1.1, h.1.2, h.2⟩
theorem pl_mem {X np p : Nat} (hp : p < np) : p ∈ pl X np ↔ X.testBit p = true := by
  unfold pl
  rw [List.mem_filter, List.mem_range]
  exact ⟨fun z => z.2, fun z => ⟨hp, z⟩⟩
