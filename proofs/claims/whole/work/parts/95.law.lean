/-! THE LAW: its loop -/
theorem sld_s {L : Nat} {xs : Nat → Int32} {i : Nat} (hL : L ≤ 3072) (hi : i < L) : sld L xs (nI i) = some (xs i) := by
  unfold sld
  rw [if_pos (inB_nI hi (by omega)), nI_clamp (by omega)]
section NoRef
variable {S S2 : St} {mb : Nat}
theorem nr_I (h : ¬ kd S mb = 13) (f : Nat) : getI S (some mb) 13 f = none := if_neg h
theorem nr_R (h : ¬ kd S mb = 13) (f : Nat) : getR S (some mb) 13 f = none := if_neg h
theorem nr_V (h : ¬ kd S mb = 13) : rcv S (some mb) 13 = none := if_neg h
theorem nr_P (h : ¬ kd S mb = 13) (f : Nat) (v : Int32) : putI S (some mb) 13 f v = none := if_neg h
theorem nr_days (h : ¬ kd S mb = 13) (a : Int32) {r : Int32} (e2 : f_X12_days S mb a = some (r, S2)) : S2 = S := by
  unfold f_X12_days at e2
  first
  | (simp only [nr_I h, nr_R h, nr_V h, nr_P h, M_isIn, M_isState, Option.bind_some, Option.bind_none] at e2; done)
  | (simp only [nr_I h, nr_R h, nr_V h, nr_P h, M_isIn, M_isState, Option.bind_some, Option.bind_none] at e2
     repeat' split at e2
     all_goals first | exact (Prod.mk.inj (Option.some.inj e2)).2.symm | cases e2)
theorem nr_firm (h : ¬ kd S mb = 13) (a : Int32) {r : Int32} (e2 : f_X12_firm S mb a = some (r, S2)) : S2 = S := by
  unfold f_X12_firm at e2
  first
  | (simp only [nr_I h, nr_R h, nr_V h, nr_P h, M_isIn, M_isState, Option.bind_some, Option.bind_none] at e2; done)
  | (simp only [nr_I h, nr_R h, nr_V h, nr_P h, M_isIn, M_isState, Option.bind_some, Option.bind_none] at e2
     repeat' split at e2
     all_goals first | exact (Prod.mk.inj (Option.some.inj e2)).2.symm | cases e2)
theorem nr_merge (h : ¬ kd S mb = 13) (a b c : Int32) {r : Int32} (e2 : f_X12_merge S mb a b c = some (r, S2)) : S2 = S := by
  unfold f_X12_merge at e2
  first
  | (simp only [nr_I h, nr_R h, nr_V h, nr_P h, M_isIn, M_isState, Option.bind_some, Option.bind_none] at e2; done)
  | (simp only [nr_I h, nr_R h, nr_V h, nr_P h, M_isIn, M_isState, Option.bind_some, Option.bind_none] at e2
     repeat' split at e2
     all_goals first | exact (Prod.mk.inj (Option.some.inj e2)).2.symm | cases e2)
theorem nr_person (h : ¬ kd S mb = 13) (a b c d e : Int32) {r : Int32} (e2 : f_X12_person S mb a b c d e = some (r, S2)) : S2 = S := by
  unfold f_X12_person at e2
  first
  | (simp only [nr_I h, nr_R h, nr_V h, nr_P h, M_isIn, M_isState, Option.bind_some, Option.bind_none] at e2; done)
  | (simp only [nr_I h, nr_R h, nr_V h, nr_P h, M_isIn, M_isState, Option.bind_some, Option.bind_none] at e2
     repeat' split at e2
     all_goals first | exact (Prod.mk.inj (Option.some.inj e2)).2.symm | cases e2)
theorem nr_dies (h : ¬ kd S mb = 13) (a b : Int32) {r : Int32} (e2 : f_X12_dies S mb a b = some (r, S2)) : S2 = S := by
  unfold f_X12_dies at e2
  first
  | (simp only [nr_I h, nr_R h, nr_V h, nr_P h, M_isIn, M_isState, Option.bind_some, Option.bind_none] at e2; done)
  | (simp only [nr_I h, nr_R h, nr_V h, nr_P h, M_isIn, M_isState, Option.bind_some, Option.bind_none] at e2
     repeat' split at e2
     all_goals first | exact (Prod.mk.inj (Option.some.inj e2)).2.symm | cases e2)
theorem nr_moves (h : ¬ kd S mb = 13) (a b : Int32) {r : Int32} (e2 : f_X12_moves S mb a b = some (r, S2)) : S2 = S := by
  unfold f_X12_moves at e2
  first
  | (simp only [nr_I h, nr_R h, nr_V h, nr_P h, M_isIn, M_isState, Option.bind_some, Option.bind_none] at e2; done)
  | (simp only [nr_I h, nr_R h, nr_V h, nr_P h, M_isIn, M_isState, Option.bind_some, Option.bind_none] at e2
     repeat' split at e2
     all_goals first | exact (Prod.mk.inj (Option.some.inj e2)).2.symm | cases e2)
theorem nr_account (h : ¬ kd S mb = 13) (a b c d : Int32) {r : Int32} (e2 : f_X12_account S mb a b c d = some (r, S2)) : S2 = S := by
  unfold f_X12_account at e2
  first
  | (simp only [nr_I h, nr_R h, nr_V h, nr_P h, M_isIn, M_isState, Option.bind_some, Option.bind_none] at e2; done)
  | (simp only [nr_I h, nr_R h, nr_V h, nr_P h, M_isIn, M_isState, Option.bind_some, Option.bind_none] at e2
     repeat' split at e2
     all_goals first | exact (Prod.mk.inj (Option.some.inj e2)).2.symm | cases e2)
theorem nr_act (h : ¬ kd S mb = 13) (a b c d : Int32) {r : Int32} (e2 : f_X12_act S mb a b c d = some (r, S2)) : S2 = S := by
  unfold f_X12_act at e2
  first
  | (simp only [nr_I h, nr_R h, nr_V h, nr_P h, M_isIn, M_isState, Option.bind_some, Option.bind_none] at e2; done)
  | (simp only [nr_I h, nr_R h, nr_V h, nr_P h, M_isIn, M_isState, Option.bind_some, Option.bind_none] at e2
     repeat' split at e2
     all_goals first | exact (Prod.mk.inj (Option.some.inj e2)).2.symm | cases e2)
theorem nr_grow (h : ¬ kd S mb = 13) (a b c d : Int32) {r : Int32} (e2 : f_X12_grow S mb a b c d = some (r, S2)) : S2 = S := by
  unfold f_X12_grow at e2
  first
  | (simp only [nr_I h, nr_R h, nr_V h, nr_P h, M_isIn, M_isState, Option.bind_some, Option.bind_none] at e2; done)
  | (simp only [nr_I h, nr_R h, nr_V h, nr_P h, M_isIn, M_isState, Option.bind_some, Option.bind_none] at e2
     repeat' split at e2
     all_goals first | exact (Prod.mk.inj (Option.some.inj e2)).2.symm | cases e2)
theorem nr_feed (h : ¬ kd S mb = 13) (a b c d e : Int32) {r : Int32} (e2 : f_X12_feed S mb a b c d e = some (r, S2)) : S2 = S := by
  unfold f_X12_feed at e2
  first
  | (simp only [nr_I h, nr_R h, nr_V h, nr_P h, M_isIn, M_isState, Option.bind_some, Option.bind_none] at e2; done)
  | (simp only [nr_I h, nr_R h, nr_V h, nr_P h, M_isIn, M_isState, Option.bind_some, Option.bind_none] at e2
     repeat' split at e2
     all_goals first | exact (Prod.mk.inj (Option.some.inj e2)).2.symm | cases e2)
theorem nr_end (h : ¬ kd S mb = 13) (a : Int32) {r : Int32} (e2 : f_X12_end S mb a = some (r, S2)) : S2 = S := by
  unfold f_X12_end at e2
  first
  | (simp only [nr_I h, nr_R h, nr_V h, nr_P h, M_isIn, M_isState, Option.bind_some, Option.bind_none] at e2; done)
  | (simp only [nr_I h, nr_R h, nr_V h, nr_P h, M_isIn, M_isState, Option.bind_some, Option.bind_none] at e2
     repeat' split at e2
     all_goals first | exact (Prod.mk.inj (Option.some.inj e2)).2.symm | cases e2)
theorem nr_reads (h : ¬ kd S mb = 13) (a : Int32) {r : Int32} (e2 : f_X12_reads S mb a = some (r, S2)) : S2 = S := by
  unfold f_X12_reads at e2
  first
  | (simp only [nr_I h, nr_R h, nr_V h, nr_P h, M_isIn, M_isState, Option.bind_some, Option.bind_none] at e2; done)
  | (simp only [nr_I h, nr_R h, nr_V h, nr_P h, M_isIn, M_isState, Option.bind_some, Option.bind_none] at e2
     repeat' split at e2
     all_goals first | exact (Prod.mk.inj (Option.some.inj e2)).2.symm | cases e2)
theorem nr_report (h : ¬ kd S mb = 13) (a : Int32) {r : Int32} (e2 : f_X12_report S mb a = some (r, S2)) : S2 = S := by
  unfold f_X12_report at e2
  first
  | (simp only [nr_I h, nr_R h, nr_V h, nr_P h, M_isIn, M_isState, Option.bind_some, Option.bind_none] at e2; done)
  | (simp only [nr_I h, nr_R h, nr_V h, nr_P h, M_isIn, M_isState, Option.bind_some, Option.bind_none] at e2
     repeat' split at e2
     all_goals first | exact (Prod.mk.inj (Option.some.inj e2)).2.symm | cases e2)
theorem nr_join (h : ¬ kd S mb = 13) (a b : Int32) {r : Int32} (e2 : f_X12_join S mb a b = some (r, S2)) : S2 = S := by
  unfold f_X12_join at e2
  first
  | (simp only [nr_I h, nr_R h, nr_V h, nr_P h, M_isIn, M_isState, Option.bind_some, Option.bind_none] at e2; done)
  | (simp only [nr_I h, nr_R h, nr_V h, nr_P h, M_isIn, M_isState, Option.bind_some, Option.bind_none] at e2
     repeat' split at e2
     all_goals first | exact (Prod.mk.inj (Option.some.inj e2)).2.symm | cases e2)
theorem nr_joined (h : ¬ kd S mb = 13) (a b c : Int32) {r : Int32} (e2 : f_X12_joined S mb a b c = some (r, S2)) : S2 = S := by
  unfold f_X12_joined at e2
  first
  | (simp only [nr_I h, nr_R h, nr_V h, nr_P h, M_isIn, M_isState, Option.bind_some, Option.bind_none] at e2; done)
  | (simp only [nr_I h, nr_R h, nr_V h, nr_P h, M_isIn, M_isState, Option.bind_some, Option.bind_none] at e2
     repeat' split at e2
     all_goals first | exact (Prod.mk.inj (Option.some.inj e2)).2.symm | cases e2)
theorem nr_claim (h : ¬ kd S mb = 13) (a b c d : Int32) {r : Int32} (e2 : f_X12_claim S mb a b c d = some (r, S2)) : S2 = S := by
  unfold f_X12_claim at e2
  first
  | (simp only [nr_I h, nr_R h, nr_V h, nr_P h, M_isIn, M_isState, Option.bind_some, Option.bind_none] at e2; done)
  | (simp only [nr_I h, nr_R h, nr_V h, nr_P h, M_isIn, M_isState, Option.bind_some, Option.bind_none] at e2
     repeat' split at e2
     all_goals first | exact (Prod.mk.inj (Option.some.inj e2)).2.symm | cases e2)
theorem nr_claimOf (h : ¬ kd S mb = 13) (a b : Int32) {r : Int64} (e2 : f_X12_claimOf S mb a b = some (r, S2)) : S2 = S := by
  unfold f_X12_claimOf at e2
  first
  | (simp only [nr_I h, nr_R h, nr_V h, nr_P h, M_isIn, M_isState, Option.bind_some, Option.bind_none] at e2; done)
  | (simp only [nr_I h, nr_R h, nr_V h, nr_P h, M_isIn, M_isState, Option.bind_some, Option.bind_none] at e2
     repeat' split at e2
     all_goals first | exact (Prod.mk.inj (Option.some.inj e2)).2.symm | cases e2)
theorem nr_pay (h : ¬ kd S mb = 13) (a : Int32) {r : Int64} (e2 : f_X12_pay S mb a = some (r, S2)) : S2 = S := by
  unfold f_X12_pay at e2
  first
  | (simp only [nr_I h, nr_R h, nr_V h, nr_P h, M_isIn, M_isState, Option.bind_some, Option.bind_none] at e2; done)
  | (simp only [nr_I h, nr_R h, nr_V h, nr_P h, M_isIn, M_isState, Option.bind_some, Option.bind_none] at e2
     repeat' split at e2
     all_goals first | exact (Prod.mk.inj (Option.some.inj e2)).2.symm | cases e2)
theorem nr_back (h : ¬ kd S mb = 13) (a : Int32) {r : Int64} (e2 : f_X12_back S mb a = some (r, S2)) : S2 = S := by
  unfold f_X12_back at e2
  first
  | (simp only [nr_I h, nr_R h, nr_V h, nr_P h, M_isIn, M_isState, Option.bind_some, Option.bind_none] at e2; done)
  | (simp only [nr_I h, nr_R h, nr_V h, nr_P h, M_isIn, M_isState, Option.bind_some, Option.bind_none] at e2
     repeat' split at e2
     all_goals first | exact (Prod.mk.inj (Option.some.inj e2)).2.symm | cases e2)
theorem nr_figure (h : ¬ kd S mb = 13) (a b c : Int32) {r : Int32} (e2 : f_X12_figure S mb a b c = some (r, S2)) : S2 = S := by
  unfold f_X12_figure at e2
  first
  | (simp only [nr_I h, nr_R h, nr_V h, nr_P h, M_isIn, M_isState, Option.bind_some, Option.bind_none] at e2; done)
  | (simp only [nr_I h, nr_R h, nr_V h, nr_P h, M_isIn, M_isState, Option.bind_some, Option.bind_none] at e2
     repeat' split at e2
     all_goals first | exact (Prod.mk.inj (Option.some.inj e2)).2.symm | cases e2)
theorem nr_costs (h : ¬ kd S mb = 13) (a b : Int32) {r : Int32} (e2 : f_X12_costs S mb a b = some (r, S2)) : S2 = S := by
  unfold f_X12_costs at e2
  first
  | (simp only [nr_I h, nr_R h, nr_V h, nr_P h, M_isIn, M_isState, Option.bind_some, Option.bind_none] at e2; done)
  | (simp only [nr_I h, nr_R h, nr_V h, nr_P h, M_isIn, M_isState, Option.bind_some, Option.bind_none] at e2
     repeat' split at e2
     all_goals first | exact (Prod.mk.inj (Option.some.inj e2)).2.symm | cases e2)
theorem nr_looks (h : ¬ kd S mb = 13) (a b c d : Int32) {r : Int32} (e2 : f_X12_looks S mb a b c d = some (r, S2)) : S2 = S := by
  unfold f_X12_looks at e2
  first
  | (simp only [nr_I h, nr_R h, nr_V h, nr_P h, M_isIn, M_isState, Option.bind_some, Option.bind_none] at e2; done)
  | (simp only [nr_I h, nr_R h, nr_V h, nr_P h, M_isIn, M_isState, Option.bind_some, Option.bind_none] at e2
     repeat' split at e2
     all_goals first | exact (Prod.mk.inj (Option.some.inj e2)).2.symm | cases e2)
end NoRef
theorem JJ.k13 {S1 S2 : St} {xb k : Nat} (h : JJ S2 xb k) (hn : ¬ kd S1 (xb + 22) = 13 → S2 = S1) : rcv S1 (some (xb + 22)) 13 = some (xb + 22) := by
  by_cases c : kd S1 (xb + 22) = 13
  · exact rcv_s c
  · exfalso
    obtain ⟨⟨g, j⟩, -⟩ := h
    have := j.1.2.2.2.1.1
    rw [hn c] at this
    exact c this
/-- one turn and the rest -/
theorem law_loop {L : Nat} {xs : Nat → Int32} {xb x0 : Nat} (hL : L ≤ 3072) (op_reads : ∀ {S : St} {k : Nat}, JJ S xb (k + 1) → ∀ s : Int32, ∃ r S1, f_X11_reads S xb s = some (r, S1) ∧ ∃ S2, f_X12_reads S1 (xb + 22) s = some (r, S2) ∧ JJ S2 xb k) : ∀ (k t fu : Nat) (S : St), L < 6 * (t + k) + 6 → k < fu → 6 * t ≤ 3100 → JJ S xb k → ∃ o : Int32 × St, f_L_law_18 L xs fu S x0 (some xb) (some (xb + 22)) (nI (6 * t)) = some o ∧ o.1 = 1 := by
  intro k
  induction k with
  | zero =>
    intro t fu S h1 h2 h3 h
    obtain ⟨fu, rfl⟩ : ∃ k, fu = k + 1 := ⟨fu - 1, by omega⟩
    have s6 : (nI L - 6).toInt = (L : Int) - 6 := by rw [sub_i (by rw [nI_toInt (by omega)]; simp only [Int32.reduceToInt]; omega) (by rw [nI_toInt (by omega)]; simp only [Int32.reduceToInt]; omega), nI_toInt (by omega)]; rfl
    rw [f_L_law_18, if_pos (by rw [lt_i, s6, nI_toInt (by omega)]; omega)]
    exact ⟨_, rfl, rfl⟩
  | succ k ih =>
    intro t fu S h1 h2 h3 h
    obtain ⟨fu, rfl⟩ : ∃ k, fu = k + 1 := ⟨fu - 1, by omega⟩
    have s6 : (nI L - 6).toInt = (L : Int) - 6 := by rw [sub_i (by rw [nI_toInt (by omega)]; simp only [Int32.reduceToInt]; omega) (by rw [nI_toInt (by omega)]; simp only [Int32.reduceToInt]; omega), nI_toInt (by omega)]; rfl
    by_cases hx : L < 6 * t + 6
    · rw [f_L_law_18, if_pos (by rw [lt_i, s6, nI_toInt (by omega)]; omega)]
      exact ⟨_, rfl, rfl⟩
    have hx3 : ¬ (nI L - 6) < nI (6 * t) := by rw [lt_i, s6, nI_toInt (by omega)]; omega
    have q0 := sld_s (xs := xs) (i := 6 * t) hL (by omega)
    have q1 : sld L xs (nI (6 * t) + 1) = some (xs (6 * t + 1)) := by rw [show (1 : Int32) = nI 1 from rfl, nI_add]; exact sld_s hL (by omega)
    have q2 : sld L xs (nI (6 * t) + 2) = some (xs (6 * t + 2)) := by rw [show (2 : Int32) = nI 2 from rfl, nI_add]; exact sld_s hL (by omega)
    have q3 : sld L xs (nI (6 * t) + 3) = some (xs (6 * t + 3)) := by rw [show (3 : Int32) = nI 3 from rfl, nI_add]; exact sld_s hL (by omega)
    have q4 : sld L xs (nI (6 * t) + 4) = some (xs (6 * t + 4)) := by rw [show (4 : Int32) = nI 4 from rfl, nI_add]; exact sld_s hL (by omega)
    have q5 : sld L xs (nI (6 * t) + 5) = some (xs (6 * t + 5)) := by rw [show (5 : Int32) = nI 5 from rfl, nI_add]; exact sld_s hL (by omega)
    have qn : nI (6 * t) + 6 = nI (6 * (t + 1)) := by rw [show (6 : Int32) = nI 6 from rfl, nI_add]; rfl
    have vx : rcv S (some xb) 12 = some xb := by
      obtain ⟨⟨g, j⟩, -⟩ := id h
      exact xV j.1.2.2.1
    have vm : rcv S (some (xb + 22)) 13 = some (xb + 22) := by
      obtain ⟨⟨g, j⟩, -⟩ := id h
      exact mV j.1.2.2.2.1
    have next : ∀ S2, JJ S2 xb k → ∃ o : Int32 × St, f_L_law_18 L xs fu S2 x0 (some xb) (some (xb + 22)) (nI (6 * (t + 1))) = some o ∧ o.1 = 1 := fun S2 j2 => ih (t + 1) fu S2 (by omega) (by omega) (by omega) j2
    rw [f_L_law_18, if_neg hx3, q0]
    simp only [Option.bind_some]
    obtain ⟨o, ho⟩ : ∃ o, o = xs (6 * t) &&& 63 := ⟨_, rfl⟩
    rw [← ho]
    by_cases c0 : o = 0
    · rw [if_pos c0]
      clear ih
      obtain ⟨r, S1, e1, S2, e2, j2⟩ := op_days h (xs (6 * t + 1))
      have v1 := j2.k13 (fun z => nr_days z (xs (6 * t + 1)) e2)
      simp only [q1, vx, e1, v1, e2, Option.bind_some, qn]
      rw [if_pos True.intro]
      exact next _ j2
    rw [if_neg c0]
    by_cases c1 : o = 1
    · rw [if_pos c1]
      clear ih
      obtain ⟨r, S1, e1, S2, e2, j2⟩ := op_firm h (xs (6 * t + 1))
      have v1 := j2.k13 (fun z => nr_firm z (xs (6 * t + 1)) e2)
      simp only [q1, vx, e1, v1, e2, Option.bind_some, qn]
      rw [if_pos True.intro]
      exact next _ j2
    rw [if_neg c1]
    by_cases c2 : o = 2
    · rw [if_pos c2]
      clear ih
      obtain ⟨r, S1, e1, S2, e2, j2⟩ := op_merge h (xs (6 * t + 1)) (xs (6 * t + 2)) (xs (6 * t + 3))
      have v1 := j2.k13 (fun z => nr_merge z (xs (6 * t + 1)) (xs (6 * t + 2)) (xs (6 * t + 3)) e2)
      simp only [q1, q2, q3, vx, e1, v1, e2, Option.bind_some, qn]
      rw [if_pos True.intro]
      exact next _ j2
    rw [if_neg c2]
    by_cases c3 : o = 3
    · rw [if_pos c3]
      clear ih
      obtain ⟨r, e1, e2⟩ := op_firmOn h (xs (6 * t + 1)) (xs (6 * t + 2))
      have j2 := h.le
      simp only [q1, q2, vx, e1, vm, e2, Option.bind_some, qn]
      rw [if_pos True.intro]
      exact next _ j2
    rw [if_neg c3]
    by_cases c4 : o = 4
    · rw [if_pos c4]
      clear ih
      obtain ⟨r, S1, e1, S2, e2, j2⟩ := op_person h (xs (6 * t + 1)) (xs (6 * t + 2)) (xs (6 * t + 3)) (xs (6 * t + 4)) (xs (6 * t + 5))
      have v1 := j2.k13 (fun z => nr_person z (xs (6 * t + 1)) (xs (6 * t + 2)) (xs (6 * t + 3)) (xs (6 * t + 4)) (xs (6 * t + 5)) e2)
      simp only [q1, q2, q3, q4, q5, vx, e1, v1, e2, Option.bind_some, qn]
      rw [if_pos True.intro]
      exact next _ j2
    rw [if_neg c4]
    by_cases c5 : o = 5
    · rw [if_pos c5]
      clear ih
      obtain ⟨r, S1, e1, S2, e2, j2⟩ := op_dies h (xs (6 * t + 1)) (xs (6 * t + 2))
      have v1 := j2.k13 (fun z => nr_dies z (xs (6 * t + 1)) (xs (6 * t + 2)) e2)
      simp only [q1, q2, vx, e1, v1, e2, Option.bind_some, qn]
      rw [if_pos True.intro]
      exact next _ j2
    rw [if_neg c5]
    by_cases c6 : o = 6
    · rw [if_pos c6]
      clear ih
      obtain ⟨r, S1, e1, S2, e2, j2⟩ := op_moves h (xs (6 * t + 1)) (xs (6 * t + 2))
      have v1 := j2.k13 (fun z => nr_moves z (xs (6 * t + 1)) (xs (6 * t + 2)) e2)
      simp only [q1, q2, vx, e1, v1, e2, Option.bind_some, qn]
      rw [if_pos True.intro]
      exact next _ j2
    rw [if_neg c6]
    by_cases c7 : o = 7
    · rw [if_pos c7]
      clear ih
      obtain ⟨r, S1, e1, S2, e2, j2⟩ := op_account h (xs (6 * t + 1)) (xs (6 * t + 2)) (xs (6 * t + 3)) (xs (6 * t + 4))
      have v1 := j2.k13 (fun z => nr_account z (xs (6 * t + 1)) (xs (6 * t + 2)) (xs (6 * t + 3)) (xs (6 * t + 4)) e2)
      simp only [q1, q2, q3, q4, vx, e1, v1, e2, Option.bind_some, qn]
      rw [if_pos True.intro]
      exact next _ j2
    rw [if_neg c7]
    by_cases c8 : o = 8
    · rw [if_pos c8]
      clear ih
      obtain ⟨r, S1, e1, S2, e2, j2⟩ := op_act h (xs (6 * t + 1)) (xs (6 * t + 2)) (xs (6 * t + 3)) (xs (6 * t + 4))
      have v1 := j2.k13 (fun z => nr_act z (xs (6 * t + 1)) (xs (6 * t + 2)) (xs (6 * t + 3)) (xs (6 * t + 4)) e2)
      simp only [q1, q2, q3, q4, vx, e1, v1, e2, Option.bind_some, qn]
      rw [if_pos True.intro]
      exact next _ j2
    rw [if_neg c8]
    by_cases c9 : o = 9
    · rw [if_pos c9]
      clear ih
      obtain ⟨r, S1, e1, S2, e2, j2⟩ := op_grow h (xs (6 * t + 1)) (xs (6 * t + 2)) (xs (6 * t + 3)) (xs (6 * t + 4))
      have v1 := j2.k13 (fun z => nr_grow z (xs (6 * t + 1)) (xs (6 * t + 2)) (xs (6 * t + 3)) (xs (6 * t + 4)) e2)
      simp only [q1, q2, q3, q4, vx, e1, v1, e2, Option.bind_some, qn]
      rw [if_pos True.intro]
      exact next _ j2
    rw [if_neg c9]
    by_cases c10 : o = 10
    · rw [if_pos c10]
      clear ih
      obtain ⟨r, e1, e2⟩ := op_sum h (xs (6 * t + 1)) (xs (6 * t + 2)) (xs (6 * t + 3))
      have j2 := h.le
      simp only [q1, q2, q3, vx, e1, vm, e2, Option.bind_some, qn]
      rw [if_pos (by rw [cmp_eq])]
      exact next _ j2
    rw [if_neg c10]
    by_cases c11 : o = 11
    · rw [if_pos c11]
      clear ih
      obtain ⟨r, S1, e1, S2, e2, j2⟩ := op_feed h (xs (6 * t + 1)) (xs (6 * t + 2)) (xs (6 * t + 3)) (xs (6 * t + 4)) (xs (6 * t + 5))
      have v1 := j2.k13 (fun z => nr_feed z (xs (6 * t + 1)) (xs (6 * t + 2)) (xs (6 * t + 3)) (xs (6 * t + 4)) (xs (6 * t + 5)) e2)
      simp only [q1, q2, q3, q4, q5, vx, e1, v1, e2, Option.bind_some, qn]
      rw [if_pos True.intro]
      exact next _ j2
    rw [if_neg c11]
    by_cases c12 : o = 12
    · rw [if_pos c12]
      clear ih
      obtain ⟨r, S1, e1, S2, e2, j2⟩ := op_end h (xs (6 * t + 1))
      have v1 := j2.k13 (fun z => nr_end z (xs (6 * t + 1)) e2)
      simp only [q1, vx, e1, v1, e2, Option.bind_some, qn]
      rw [if_pos True.intro]
      exact next _ j2
    rw [if_neg c12]
    by_cases c13 : o = 13
    · rw [if_pos c13]
      clear ih
      obtain ⟨r, S1, e1, S2, e2, j2⟩ := op_reads h (xs (6 * t + 1))
      have v1 := j2.k13 (fun z => nr_reads z (xs (6 * t + 1)) e2)
      simp only [q1, vx, e1, v1, e2, Option.bind_some, qn]
      rw [if_pos True.intro]
      exact next _ j2
    rw [if_neg c13]
    by_cases c14 : o = 14
    · rw [if_pos c14]
      clear ih
      obtain ⟨r, e1, e2⟩ := op_fault h (xs (6 * t + 1))
      have j2 := h.le
      simp only [q1, vx, e1, vm, e2, Option.bind_some, qn]
      rw [if_pos True.intro]
      exact next _ j2
    rw [if_neg c14]
    by_cases c15 : o = 15
    · rw [if_pos c15]
      clear ih
      obtain ⟨r, e1, e2⟩ := op_told h (xs (6 * t + 1)) (xs (6 * t + 2))
      have j2 := h.le
      simp only [q1, q2, vx, e1, vm, e2, Option.bind_some, qn]
      rw [if_pos True.intro]
      exact next _ j2
    rw [if_neg c15]
    by_cases c16 : o = 16
    · rw [if_pos c16]
      clear ih
      obtain ⟨r, e1, e2⟩ := op_sleep h (xs (6 * t + 1)) (xs (6 * t + 2)) (xs (6 * t + 3))
      have j2 := h.le
      simp only [q1, q2, q3, vx, e1, vm, e2, Option.bind_some, qn]
      rw [if_pos True.intro]
      exact next _ j2
    rw [if_neg c16]
    by_cases c17 : o = 17
    · rw [if_pos c17]
      clear ih
      obtain ⟨r, S1, e1, S2, e2, j2⟩ := op_report h (xs (6 * t + 1))
      have v1 := j2.k13 (fun z => nr_report z (xs (6 * t + 1)) e2)
      simp only [q1, vx, e1, v1, e2, Option.bind_some, qn]
      rw [if_pos True.intro]
      exact next _ j2
    rw [if_neg c17]
    by_cases c18 : o = 18
    · rw [if_pos c18]
      clear ih
      obtain ⟨r, e1, e2⟩ := op_held h (xs (6 * t + 1)) (xs (6 * t + 2))
      have j2 := h.le
      simp only [q1, q2, vx, e1, vm, e2, Option.bind_some, qn]
      rw [if_pos (by rw [cmp_eq])]
      exact next _ j2
    rw [if_neg c18]
    by_cases c19 : o = 19
    · rw [if_pos c19]
      clear ih
      obtain ⟨r, e1, e2⟩ := op_points h (xs (6 * t + 1)) (xs (6 * t + 2))
      have j2 := h.le
      simp only [q1, q2, vx, e1, vm, e2, Option.bind_some, qn]
      rw [if_pos True.intro]
      exact next _ j2
    rw [if_neg c19]
    by_cases c20 : o = 20
    · rw [if_pos c20]
      clear ih
      obtain ⟨r, S1, e1, S2, e2, j2⟩ := op_join h (xs (6 * t + 1)) (xs (6 * t + 2))
      have v1 := j2.k13 (fun z => nr_join z (xs (6 * t + 1)) (xs (6 * t + 2)) e2)
      simp only [q1, q2, vx, e1, v1, e2, Option.bind_some, qn]
      rw [if_pos True.intro]
      exact next _ j2
    rw [if_neg c20]
    by_cases c21 : o = 21
    · rw [if_pos c21]
      clear ih
      obtain ⟨r, S1, e1, S2, e2, j2⟩ := op_joined h (xs (6 * t + 1)) (xs (6 * t + 2)) (xs (6 * t + 3))
      have v1 := j2.k13 (fun z => nr_joined z (xs (6 * t + 1)) (xs (6 * t + 2)) (xs (6 * t + 3)) e2)
      simp only [q1, q2, q3, vx, e1, v1, e2, Option.bind_some, qn]
      rw [if_pos True.intro]
      exact next _ j2
    rw [if_neg c21]
    by_cases c22 : o = 22
    · rw [if_pos c22]
      clear ih
      obtain ⟨r, e1, S2, e2, j2⟩ := op_heirs h (xs (6 * t + 1))
      simp only [q1, vx, e1, vm, e2, Option.bind_some, qn]
      rw [if_pos True.intro]
      exact next _ j2
    rw [if_neg c22]
    by_cases c23 : o = 23
    · rw [if_pos c23]
      clear ih
      obtain ⟨r, e1, S2, e2, j2⟩ := op_share h (xs (6 * t + 1)) (xs (6 * t + 2)) (xs (6 * t + 3))
      simp only [q1, q2, q3, vx, e1, vm, e2, Option.bind_some, qn]
      rw [if_pos (by rw [cmp_eq])]
      exact next _ j2
    rw [if_neg c23]
    by_cases c24 : o = 24
    · rw [if_pos c24]
      clear ih
      obtain ⟨r, S1, e1, S2, e2, j2⟩ := op_claim h (xs (6 * t + 1)) (xs (6 * t + 2)) (xs (6 * t + 3)) (xs (6 * t + 4))
      have v1 := j2.k13 (fun z => nr_claim z (xs (6 * t + 1)) (xs (6 * t + 2)) (xs (6 * t + 3)) (xs (6 * t + 4)) e2)
      simp only [q1, q2, q3, q4, vx, e1, v1, e2, Option.bind_some, qn]
      rw [if_pos True.intro]
      exact next _ j2
    rw [if_neg c24]
    by_cases c25 : o = 25
    · rw [if_pos c25]
      clear ih
      obtain ⟨r, S1, e1, S2, e2, j2⟩ := op_claimOf h (xs (6 * t + 1)) (xs (6 * t + 2))
      have v1 := j2.k13 (fun z => nr_claimOf z (xs (6 * t + 1)) (xs (6 * t + 2)) e2)
      simp only [q1, q2, vx, e1, v1, e2, Option.bind_some, qn]
      rw [if_pos (by rw [cmp_eq])]
      exact next _ j2
    rw [if_neg c25]
    by_cases c26 : o = 26
    · rw [if_pos c26]
      clear ih
      obtain ⟨r, S1, e1, S2, e2, j2⟩ := op_pay h (xs (6 * t + 1))
      have v1 := j2.k13 (fun z => nr_pay z (xs (6 * t + 1)) e2)
      simp only [q1, vx, e1, v1, e2, Option.bind_some, qn]
      rw [if_pos (by rw [cmp_eq])]
      exact next _ j2
    rw [if_neg c26]
    by_cases c27 : o = 27
    · rw [if_pos c27]
      clear ih
      obtain ⟨r, S1, e1, S2, e2, j2⟩ := op_back h (xs (6 * t + 1))
      have v1 := j2.k13 (fun z => nr_back z (xs (6 * t + 1)) e2)
      simp only [q1, vx, e1, v1, e2, Option.bind_some, qn]
      rw [if_pos (by rw [cmp_eq])]
      exact next _ j2
    rw [if_neg c27]
    by_cases c28 : o = 28
    · rw [if_pos c28]
      clear ih
      obtain ⟨r, S1, e1, S2, e2, j2⟩ := op_figure h (xs (6 * t + 1)) (xs (6 * t + 2)) (xs (6 * t + 3))
      have v1 := j2.k13 (fun z => nr_figure z (xs (6 * t + 1)) (xs (6 * t + 2)) (xs (6 * t + 3)) e2)
      simp only [q1, q2, q3, vx, e1, v1, e2, Option.bind_some, qn]
      rw [if_pos True.intro]
      exact next _ j2
    rw [if_neg c28]
    by_cases c29 : o = 29
    · rw [if_pos c29]
      clear ih
      obtain ⟨r, S1, e1, S2, e2, j2⟩ := op_costs h (xs (6 * t + 1)) (xs (6 * t + 2))
      have v1 := j2.k13 (fun z => nr_costs z (xs (6 * t + 1)) (xs (6 * t + 2)) e2)
      simp only [q1, q2, vx, e1, v1, e2, Option.bind_some, qn]
      rw [if_pos True.intro]
      exact next _ j2
    rw [if_neg c29]
    by_cases c30 : o = 30
    · rw [if_pos c30]
      clear ih
      obtain ⟨r, e1, e2⟩ := op_audit h (xs (6 * t + 1)) (xs (6 * t + 2))
      have j2 := h.le
      simp only [q1, q2, vx, e1, vm, e2, Option.bind_some, qn]
      rw [if_pos True.intro]
      exact next _ j2
    rw [if_neg c30]
    by_cases c31 : o = 31
    · rw [if_pos c31]
      clear ih
      obtain ⟨r, S1, e1, S2, e2, j2⟩ := op_looks h (xs (6 * t + 1)) (xs (6 * t + 2)) (xs (6 * t + 3)) (xs (6 * t + 4))
      have v1 := j2.k13 (fun z => nr_looks z (xs (6 * t + 1)) (xs (6 * t + 2)) (xs (6 * t + 3)) (xs (6 * t + 4)) e2)
      simp only [q1, q2, q3, q4, vx, e1, v1, e2, Option.bind_some, qn]
      rw [if_pos True.intro]
      exact next _ j2
    rw [if_neg c31]
    by_cases c32 : o = 32
    · rw [if_pos c32]
      clear ih
      obtain ⟨r, e1, e2⟩ := op_look h (xs (6 * t + 1))
      have j2 := h.le
      simp only [q1, vx, e1, vm, e2, Option.bind_some, qn]
      rw [if_pos (by rw [cmp_eq])]
      exact next _ j2
    rw [if_neg c32]
    rw [qn]
    exact next S h.le
