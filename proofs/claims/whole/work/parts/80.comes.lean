/-! the reference's pile -/
theorem M_both (S : St) {k : Nat} (hk : k ≤ 14) (a c : Int32) : f_X12_both S (nI k) a c = some (bo k a c) := by
  have kE : ∀ z : Nat, z ≤ 14 → (nI k = nI z ↔ k = z) := fun z hz => nI_eq (by omega) (by omega)
  have k5 : nI k = 5 ↔ k = 5 := kE 5 (by omega)
  have k6 : nI k = 6 ↔ k = 6 := kE 6 (by omega)
  have k7 : nI k = 7 ↔ k = 7 := kE 7 (by omega)
  have k9 : nI k = 9 ↔ k = 9 := kE 9 (by omega)
  have k10 : nI k = 10 ↔ k = 10 := kE 10 (by omega)
  have k11 : nI k = 11 ↔ k = 11 := kE 11 (by omega)
  have k13 : nI k = 13 ↔ k = 13 := kE 13 (by omega)
  unfold f_X12_both bo
  by_cases e5 : k = 5
  · rw [if_pos (k5.mpr e5), if_pos e5]
  rw [if_neg (fun z => e5 (k5.mp z)), if_neg e5]
  by_cases e6 : k = 6
  · rw [if_pos (k6.mpr e6), if_pos e6]
  rw [if_neg (fun z => e6 (k6.mp z)), if_neg e6]
  by_cases e7 : k = 7
  · rw [if_pos (k7.mpr e7), if_pos e7]
  rw [if_neg (fun z => e7 (k7.mp z)), if_neg e7]
  by_cases e9 : k = 9
  · rw [if_pos (k9.mpr e9), if_pos e9]
    split <;> rfl
  rw [if_neg (fun z => e9 (k9.mp z)), if_neg e9]
  by_cases e10 : k = 10
  · rw [if_pos (k10.mpr e10), if_pos e10]
    split <;> rfl
  rw [if_neg (fun z => e10 (k10.mp z)), if_neg e10]
  by_cases e11 : k = 11
  · rw [if_pos (k11.mpr e11), if_pos e11]
    split <;> rfl
  rw [if_neg (fun z => e11 (k11.mp z)), if_neg e11]
  by_cases e13 : k = 13
  · rw [if_pos (k13.mpr e13), if_pos e13]
  rw [if_neg (fun z => e13 (k13.mp z)), if_neg e13]
theorem nI_m1 (z : Nat) : nI (z + 1) + (-1) = nI z := by rw [← Int32.sub_eq_add_neg, nI_pred]
theorem M_c6 {mb s : Nat} (hs : s < 4) {V : Nat → Int32} : ∀ (r : List Sps) (j fu : Nat) (T : St) (st : List Int32) (t : List Bool) (b : Bool), r.length < fu → j + r.length ≤ 610 → tyD 32 r t = some [b] → VT t st → st.length ≤ 32 → MOK T mb → (∀ i, i < r.length → mi T (mb + 29) (1220 * s + 2 * (j + i)) = nI (r.getD i (0, 0)).1 ∧ mi T (mb + 29) (1220 * s + 2 * (j + i) + 1) = (r.getD i (0, 0)).2) → (∀ k, k < 5 → 1 ≤ k → mi T (mb + 38) k = V k) → SK (mi T (mb + 37)) st → ∃ T' v, f_X12_comesTo_6 fu T mb (nI s) (nI (j + r.length)) (nI st.length) (nI j) = some (v, T') ∧ evs V r st = [v] ∧ SW (fun z => z = mb + 37) T T' := by
  intro r
  induction r with
  | nil =>
    intro j fu T st t b h1 h3 ht v hl m h29 h38 sk
    obtain ⟨fu, rfl⟩ : ∃ k, fu = k + 1 := ⟨fu - 1, by omega⟩
    cases ht
    match st, v with
    | [w], _ =>
      unfold f_X12_comesTo_6
      have e0 : ldI T (some (mb + 37)) 15 0 = some (mi T (mb + 37) 0) := mL_pile m (j := 0) (by omega)
      rw [if_pos (nI_le (by simp) (by omega)), mR_pile m]
      simp only [Option.bind_some, e0]
      have : mi T (mb + 37) 0 = w := sk.1
      exact ⟨T, w, by rw [this], rfl, SW.rf _ _⟩
  | cons q r ih =>
    intro j fu T st t b h1 h3 ht v hl m h29 h38 sk
    obtain ⟨fu, rfl⟩ : ∃ k, fu = k + 1 := ⟨fu - 1, by omega⟩
    rw [List.length_cons] at h1 h3 h29 ⊢
    unfold tyD at ht
    obtain ⟨t1, hq, hr⟩ := Option.bind_eq_some_iff.mp ht
    have vv : VT t1 (ev1 V q st) := ev1_vt hq v
    have vl := v.len
    have vvl := vv.len
    have c1 : mi T (mb + 29) (1220 * s + 2 * j) = nI q.1 := (h29 0 (by omega)).1
    have c2 : mi T (mb + 29) (1220 * s + 2 * j + 1) = q.2 := (h29 0 (by omega)).2
    have ix : (1220 : Int32) * nI s + 2 * nI j = nI (1220 * s + 2 * j) := by
      rw [show (1220 : Int32) = nI 1220 from rfl, show (2 : Int32) = nI 2 from rfl, pk_mul, pk_mul, nI_add]
    have fin : ∀ A : St, SW (fun z => z = mb + 37) T A → SK (mi A (mb + 37)) (ev1 V q st) → (ev1 V q st).length ≤ 32 → ∃ T' w, f_X12_comesTo_6 fu A mb (nI s) (nI (j + (r.length + 1))) (nI (ev1 V q st).length) (nI (j + 1)) = some (w, T') ∧ evs V (q :: r) st = [w] ∧ SW (fun z => z = mb + 37) T T' := by
      intro A wA kA lA
      obtain ⟨T', w, g1, g2, g3⟩ := ih (j + 1) fu A (ev1 V q st) t1 b (by omega) (by omega) hr vv lA (m.sw wA) (fun i hi => by
        rw [(wA.2.2.2 (mb + 29) (by omega)).1]
        have := h29 (i + 1) (by omega)
        rw [show j + (i + 1) = j + 1 + i by omega] at this
        exact this) (fun k hk hk1 => by
        rw [(wA.2.2.2 (mb + 38) (by omega)).1]
        exact h38 k hk hk1) kA
      exact ⟨T', w, by rw [show j + (r.length + 1) = j + 1 + r.length by omega]; exact g1, g2, wA.tr g3⟩
    have q14 : q.1 ≤ 14 := by
      rcases ty1_c hq with z | z | z | z | z | z | z <;> omega
    have k5 : (5 : Int32) ≤ nI q.1 ↔ 5 ≤ q.1 := by
      rw [le_i, nI_toInt (by omega)]; simp only [Int32.reduceToInt]; omega
    have k0 : nI q.1 = 0 ↔ q.1 = 0 := nI_eq (a := q.1) (b := 0) (by omega) (by omega)
    have k8 : nI q.1 = 8 ↔ q.1 = 8 := nI_eq (a := q.1) (b := 8) (by omega) (by omega)
    have k12 : nI q.1 = 12 ↔ q.1 = 12 := nI_eq (a := q.1) (b := 12) (by omega) (by omega)
    unfold f_X12_comesTo_6
    rw [if_neg (nI_ge (by omega) (by omega))]
    simp only [mR_step m, ix, nI_1, mL_step m (show 1220 * s + 2 * j < 4880 by omega), mL_step m (show 1220 * s + 2 * j + 1 < 4880 by omega), c1, c2, Option.bind_some, mR_pile m, mR_facts m]
    have lo : ∀ w : Int32, ev1 V q st = w :: st → st.length < 32 → ∃ T' x, f_X12_comesTo_77 (f_X12_comesTo_6 fu) T mb (nI s) (nI (j + (r.length + 1))) (nI st.length) (nI j) w (nI st.length) (some (mb + 37)) = some (x, T') ∧ evs V (q :: r) st = [x] ∧ SW (fun z => z = mb + 37) T T' := by
      intro w hw hlt
      unfold f_X12_comesTo_77
      rw [mS_pile m (by omega), nrw15]
      simp only [Option.bind_some, nI_1]
      obtain ⟨A, hA⟩ : ∃ A, A = setI T (mb + 37) st.length w := ⟨_, rfl⟩
      rw [← hA]
      have g := fin A (by rw [hA]; exact SW_I _ _ rfl) (by
        rw [hw]
        refine ⟨by rw [hA, mi_setI_i, if_pos ⟨rfl, rfl⟩], sk.eq (fun i hi => ?_)⟩
        rw [hA, mi_setI_i, if_neg (by omega)]) (by rw [hw, List.length_cons]; omega)
      rw [hw, List.length_cons] at g
      exact g
    have hi2 : ∀ (a c : Int32) (u : List Int32), st = c :: a :: u → 5 ≤ q.1 → q.1 ≠ 8 → q.1 ≠ 12 → ∃ T' x, ((ldI T (some (mb + 37)) 15 (nI st.length + (-1) - 1)).bind fun v159 => (ldI T (some (mb + 37)) 15 (nI st.length + (-1))).bind fun v166 => (f_X12_both T (nI q.1) v159 v166).bind fun v167 => (stI T (some (mb + 37)) 15 (nI st.length + (-1) - 1) v167).bind fun S170 => f_X12_comesTo_6 fu S170 mb (nI s) (nI (j + (r.length + 1))) (nI st.length + (-1)) (nI (j + 1))) = some (x, T') ∧ evs V (q :: r) st = [x] ∧ SW (fun z => z = mb + 37) T T' := by
      intro a c u hst h5 h8 h12
      have e1 : nI st.length + (-1) = nI (u.length + 1) := by rw [hst, List.length_cons, List.length_cons, nI_m1]
      have hu : u.length + 2 ≤ 32 := by rw [hst, List.length_cons, List.length_cons] at hl; omega
      rw [e1, nI_pred]
      have hev : ev1 V q st = bo q.1 a c :: u := by
        unfold ev1
        rw [if_neg (by omega), if_neg (by omega), if_neg h8, if_neg h12, hst]
      rw [hst] at sk
      have s1 : mi T (mb + 37) (u.length + 1) = c := sk.1
      have s2 : mi T (mb + 37) u.length = a := sk.2.1
      simp only [mL_pile m (show u.length < 620 by omega), mL_pile m (show u.length + 1 < 620 by omega), s1, s2, M_both T q14, mS_pile m (show u.length < 620 by omega), nrw15, Option.bind_some]
      obtain ⟨A, hA⟩ : ∃ A, A = setI T (mb + 37) u.length (bo q.1 a c) := ⟨_, rfl⟩
      rw [← hA]
      have g := fin A (by rw [hA]; exact SW_I _ _ rfl) (by
        rw [hev]
        refine ⟨by rw [hA, mi_setI_i, if_pos ⟨rfl, rfl⟩], sk.2.2.eq (fun i hi => ?_)⟩
        rw [hA, mi_setI_i, if_neg (by omega)]) (by rw [hev, List.length_cons]; omega)
      rw [hev, List.length_cons] at g
      exact g
    have hi1 : ∀ (a w : Int32) (u : List Int32), st = a :: u → ev1 V q st = w :: u → ∃ T' x, ((stI T (some (mb + 37)) 15 (nI u.length) w).bind fun S170 => f_X12_comesTo_6 fu S170 mb (nI s) (nI (j + (r.length + 1))) (nI st.length) (nI (j + 1))) = some (x, T') ∧ evs V (q :: r) st = [x] ∧ SW (fun z => z = mb + 37) T T' := by
      intro a w u hst hev
      have hu : u.length + 1 ≤ 32 := by rw [hst, List.length_cons] at hl; omega
      rw [mS_pile m (show u.length < 620 by omega), nrw15]
      simp only [Option.bind_some]
      obtain ⟨A, hA⟩ : ∃ A, A = setI T (mb + 37) u.length w := ⟨_, rfl⟩
      rw [← hA]
      rw [hst] at sk
      have g := fin A (by rw [hA]; exact SW_I _ _ rfl) (by
        rw [hev]
        refine ⟨by rw [hA, mi_setI_i, if_pos ⟨rfl, rfl⟩], sk.2.eq (fun i hi => ?_)⟩
        rw [hA, mi_setI_i, if_neg (by omega)]) (by rw [hev, List.length_cons]; omega)
      rw [hev, List.length_cons] at g
      rw [show st.length = u.length + 1 by rw [hst, List.length_cons]]
      exact g
    rcases ty1_c hq with ⟨e, e2, -, rfl⟩ | ⟨e, e2, rfl⟩ | ⟨e, u, rfl, rfl⟩ | ⟨e, u, rfl, e2, e3, rfl⟩ | ⟨e, u, rfl, rfl⟩ | ⟨e, u, rfl, rfl⟩ | ⟨e, u, rfl, rfl⟩
    · rw [if_neg (fun z => by have := k5.mp z; omega), if_pos (k0.mpr e)]
      exact lo _ (by unfold ev1; rw [if_pos e]) (by omega)
    · rw [if_neg (fun z => by have := k5.mp z; omega), if_neg (fun z => by have := k0.mp z; omega), mL_facts m (by omega), h38 q.1 (by omega) (by omega)]
      simp only [Option.bind_some]
      exact lo _ (by unfold ev1; rw [if_neg (by omega), if_pos (by omega)]) (by omega)
    · rw [if_pos (k5.mpr (by omega)), if_neg (fun z => by have := k8.mp z; omega), if_neg (fun z => by have := k12.mp z; omega)]
      match st, v with
      | c :: a :: y, _ => exact hi2 a c y rfl (by omega) (by omega) (by omega)
    · rw [if_pos (k5.mpr (by omega)), if_pos (k8.mpr e)]
      match st, v with
      | a :: y, _ =>
        have hu : y.length + 1 ≤ 32 := by rw [List.length_cons] at hl; exact hl
        have s1 : mi T (mb + 37) y.length = a := sk.1
        have hne : ¬ q.2 = 0 := fun z => by rw [z] at e3; exact absurd e3 (by decide)
        rw [List.length_cons, nI_pred, mL_pile m (show y.length < 620 by omega), s1]
        simp only [Option.bind_some, divI, if_neg hne]
        exact hi1 a _ y rfl (by unfold ev1; rw [if_neg (by omega), if_neg (by omega), if_pos e])
    · rw [if_pos (k5.mpr (by omega)), if_neg (fun z => by have := k8.mp z; omega), if_neg (fun z => by have := k12.mp z; omega)]
      match st, v with
      | c :: a :: y, _ => exact hi2 a c y rfl (by omega) (by omega) (by omega)
    · rw [if_pos (k5.mpr (by omega)), if_neg (fun z => by have := k8.mp z; omega), if_pos (k12.mpr e)]
      match st, v with
      | a :: y, _ =>
        have hu : y.length + 1 ≤ 32 := by rw [List.length_cons] at hl; exact hl
        have s1 : mi T (mb + 37) y.length = a := sk.1
        rw [List.length_cons, nI_pred, mL_pile m (show y.length < 620 by omega), s1]
        simp only [Option.bind_some]
        exact hi1 a _ y rfl (by unfold ev1; rw [if_neg (by omega), if_neg (by omega), if_neg (by omega), if_pos e])
    · rw [if_pos (k5.mpr (by omega)), if_neg (fun z => by have := k8.mp z; omega), if_neg (fun z => by have := k12.mp z; omega)]
      match st, v with
      | c :: a :: y, _ => exact hi2 a c y rfl (by omega) (by omega) (by omega)
