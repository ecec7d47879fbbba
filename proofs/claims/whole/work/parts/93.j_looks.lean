theorem lk_go {F : Nat} {T A B C D : St} {x0 : Nat} {x1 x2 x3 x4 bi : Int32} (h1 : f_X12_looks_44 F T x0 x1 x2 x3 x4 0 = some (x0, x1, x2, x3, x4, A)) (hB : ((getR A (some x0) 13 79).bind fun v67 => stI A v67 15 0 0) = some B) (hC : ((getR B (some x0) 13 80).bind fun v74 => stI B v74 15 0 0) = some C) (h2 : f_X12_looks_83 F C x0 x1 x2 x3 x4 0 = some (x0, x4, D)) (h3 : f_X12_looks_319 F D x0 x4 0 0 = some (x0, x4, bi, D)) : ((f_X12_looks_44 F T x0 x1 x2 x3 x4 0).bind fun (x0, x1_44, x2_44, x3_44, x4_44, S_44) => (getR S_44 (some x0) 13 79).bind fun v67 =>
    (stI S_44 v67 15 0 0).bind fun S72 =>
    (getR S72 (some x0) 13 80).bind fun v74 =>
    (stI S72 v74 15 0 0).bind fun S79 =>
    (f_X12_looks_83 F S79 x0 x1_44 x2_44 x3_44 x4_44 0).bind fun (x0, x4_83, S_83) => (f_X12_looks_319 F S_83 x0 x4_83 0 0).bind fun (x0, x4_319, x5_319, S_319) => (if x4_319 = 0 then
    (getR S_319 (some x0) 13 80).bind fun v438 =>
    (ldI S_319 v438 15 x5_319).bind fun v443 =>
    some (v443, S_319)
    else
    (if x4_319 = 1 then
    (getR S_319 (some x0) 13 79).bind fun v454 =>
    (ldI S_319 v454 15 x5_319).bind fun v459 =>
    some (v459, S_319)
    else
    (remI x5_319 1000).bind fun v468 =>
    some (v468, S_319)))) = (if x4 = 0 then
    (getR D (some x0) 13 80).bind fun v438 =>
    (ldI D v438 15 bi).bind fun v443 =>
    some (v443, D)
    else
    (if x4 = 1 then
    (getR D (some x0) 13 79).bind fun v454 =>
    (ldI D v454 15 bi).bind fun v459 =>
    some (v459, D)
    else
    (remI bi 1000).bind fun v468 =>
    some (v468, D))) := by
  rw [h1]
  simp only [Option.bind_some]
  cases eA : getR A (some x0) 13 79 with
  | none => rw [eA] at hB; cases hB
  | some v67 =>
    rw [eA] at hB
    simp only [Option.bind_some] at hB ⊢
    rw [hB]
    simp only [Option.bind_some]
    cases eB : getR B (some x0) 13 80 with
    | none => rw [eB] at hC; cases hC
    | some v74 =>
      rw [eB] at hC
      simp only [Option.bind_some] at hC ⊢
      rw [hC]
      simp only [Option.bind_some]
      rw [h2]
      simp only [Option.bind_some]
      rw [h3]
      rfl
section Lk
variable {xb k q f : Nat} {M : MI}
theorem M_looks {T : St} {x4 : Int32} (hk : k ≤ 20) (hq : q ≤ 999) (hf : f < 8) (hg : gOK (fgs M f)) (hp : ∀ y, pcv M y ≤ 99) (hpe : ∀ y, y < 20 → M 57 y = nI (pcv M y) ∧ 1 ≤ pcv M y) (mT : MOK T (xb + 22)) (h56 : Mi T (xb + 22) 56 = M 56) (h57 : Mi T (xb + 22) 57 = M 57) (hfi : f_X12_isFirm T (xb + 22) (nI f) = some 1) (hx : 0 ≤ x4.toInt ∧ x4.toInt ≤ 2) : ∃ (G C D : Nat) (T' : St), G < 2 ^ 31 ∧ C ≤ 999 ∧ D < 1048576 ∧ KV (wvv M f) (pcv M) (fil M f 20) k q = (G : Int) * 2147483648 - (C : Int) * 1048576 - D ∧ f_X12_looks T (xb + 22) (nI f) (nI k) (nI q) x4 = some (if x4 = 0 then nI D else if x4 = 1 then nI G else nI C, T') ∧ SW (PT xb) T T' := by
  obtain ⟨A, a1, a2, a3, -⟩ := M_l44 (xb := xb) (x1 := nI f) (x2 := nI k) (x3 := nI q) (x4 := x4) 21000 0 FU T (by omega) (by unfold FU; omega) mT
  rw [nI_0] at a1
  have mA := mT.sw a2
  obtain ⟨B, hB⟩ : ∃ B, B = setI A (xb + 22 + 58) 0 0 := ⟨_, rfl⟩
  have sB : ((getR A (some (xb + 22)) 13 79).bind fun v67 => stI A v67 15 0 0) = some B := by
    rw [mR_most mA, hB]
    exact mS_most mA (j := 0) (by omega) 0
  have wB : SW (PT xb) T B := a2.tr (by rw [hB]; exact SW_I _ _ (Or.inl rfl))
  have mB := mT.sw wB
  obtain ⟨C, hC⟩ : ∃ C, C = setI B (xb + 22 + 59) 0 0 := ⟨_, rfl⟩
  have sC : ((getR B (some (xb + 22)) 13 80).bind fun v74 => stI B v74 15 0 0) = some C := by
    rw [mR_mostSet mB, hC]
    exact mS_mostSet mB (j := 0) (by omega) 0
  have wC : SW (PT xb) T C := wB.tr (by rw [hC]; exact SW_I _ _ (Or.inr rfl))
  have mC := mT.sw wC
  have c58 : ∀ z, z < 21000 → mi C (xb + 22 + 58) z = if z = 0 then 0 else -1 := fun z hz => by
    rw [hC, mi_setI_i, if_neg (by omega), hB, mi_setI_i]
    by_cases e : z = 0
    · rw [if_pos ⟨rfl, e⟩, if_pos e]
    · rw [if_neg (fun y => e y.2), if_neg e, a3 z (by omega) hz]
  have c59 : mi C (xb + 22 + 59) 0 = 0 := by rw [hC, mi_setI_i, if_pos ⟨rfl, rfl⟩]
  have T0 : TBl C xb (gnN (fgs M f)) (pcv M) k q (fun _ _ => gl (fgs M f) 0) := fun n c h1 h2 => by
    show EK (gnN (fgs M f)) (pcv M) k q [] n c _ _
    rw [c58 _ (by omega)]
    by_cases e : n = 0 ∧ c = 0
    · rw [e.1, e.2, if_pos (by omega), c59]
      unfold EK
      rw [if_pos (by omega)]
      exact Or.inr ⟨[], List.Sublist.slnil, rfl, rfl, nI_0.symm, nI_0.symm, fun A' hA _ _ => by rw [List.sublist_nil.mp hA]; exact Int.le_refl _⟩
    · rw [if_neg (by omega)]
      unfold EK
      split
      · refine Or.inl ⟨rfl, fun A hA z => ?_⟩
        rw [List.sublist_nil.mp hA] at z
        exact e ⟨z.1.symm, z.2.symm⟩
      · rfl
  obtain ⟨D, d1, d2, d3⟩ := M_l83 (x4 := x4) hk hq hf hg hp hpe 20 0 FU C (by omega) (by unfold FU; omega) mC (((wC.2.2.2 (xb + 22 + 56) (by unfold PT; omega)).1).trans h56) (((wC.2.2.2 (xb + 22 + 57) (by unfold PT; omega)).1).trans h57) T0
  rw [nI_0] at d1
  have wD := wC.tr d2
  have mD := mT.sw wD
  obtain ⟨a, ha⟩ : ∃ a, a = mi D (xb + 22 + 58) := ⟨_, rfl⟩
  obtain ⟨b, hb⟩ : ∃ b, b = mi D (xb + 22 + 59) := ⟨_, rfl⟩
  have glr : (gl (fgs M f) 20).Sublist (List.range 20) := List.filter_sublist
  -- a place that holds something
  have val : ∀ i, i < 21000 → a i ≠ -1 → ∃ A : List Nat, A.Sublist (gl (fgs M f) 20) ∧ A.length ≤ k ∧ cst (pcv M) A = i % 1000 ∧ i % 1000 ≤ q ∧ A.length = i / 1000 ∧ a i = nI (gsm (gnN (fgs M f)) A) ∧ b i = nI (msm A) ∧ gsm (gnN (fgs M f)) A < 2 ^ 31 ∧ msm A < 1048576 ∧ (∀ A' : List Nat, A'.Sublist (gl (fgs M f) 20) → A'.length = i / 1000 → cst (pcv M) A' = i % 1000 → wth (wg (gnN (fgs M f)) (pcv M)) A' ≤ wth (wg (gnN (fgs M f)) (pcv M)) A) ∧ vlt a b i = wth (wg (gnN (fgs M f)) (pcv M)) A := by
    intro i hi hn
    have h := d3 (i / 1000) (i % 1000) (by omega) (by omega)
    simp only at h
    rw [show 1000 * (i / 1000) + i % 1000 = i by omega, ← ha, ← hb] at h
    unfold EK at h
    by_cases z : i / 1000 ≤ k ∧ i % 1000 ≤ q
    · rw [if_pos z] at h
      rcases h with ⟨h1, -⟩ | ⟨A, q1, q2, q3, q4, q5, q6⟩
      · exact absurd h1 hn
      · have l1 := gsm_le (gnN_le hg) A
        have l2 := (q1.trans glr).length_le
        rw [List.length_range] at l2
        have l3 := msm_lt 20 A (q1.trans glr)
        refine ⟨A, q1, by omega, q3, z.2, q2, q4, q5, by omega, by omega, q6, ?_⟩
        unfold vlt
        rw [q4, q5, nI_toInt (by omega), nI_toInt (by omega), wth_eq, q3]
    · rw [if_neg z] at h
      exact absurd h hn
  have a0 : a 0 ≠ -1 := fun z => by
    have h := d3 0 0 (by omega) (by omega)
    simp only at h
    rw [show 1000 * 0 + 0 = 0 by omega, ← ha, ← hb] at h
    unfold EK at h
    rw [if_pos (by omega)] at h
    rcases h with ⟨-, h2⟩ | ⟨A, s1, -, -, q4, -⟩
    · exact h2 [] (List.nil_sublist _) ⟨rfl, rfl⟩
    · rw [z] at q4
      have l1 := gsm_le (gnN_le hg) A
      have l2 := (s1.trans glr).length_le
      rw [List.length_range] at l2
      exact nI_ne1 (by omega) q4.symm
  have hab : ∀ i, i < 21000 → a i = -1 ∨ (0 ≤ (a i).toInt ∧ 0 ≤ (b i).toInt ∧ (b i).toInt < 1048576) := fun i hi => by
    by_cases z : a i = -1
    · exact Or.inl z
    · obtain ⟨A, -, -, -, -, -, q4, q5, q6, q7, -, -⟩ := val i hi z
      right
      rw [q4, q5, nI_toInt (by omega), nI_toInt (by omega)]
      omega
  obtain ⟨bi, e1, e2, e3, e4⟩ := M_l319 (x4 := x4) mD (fun i => by rw [ha]) (fun i => by rw [hb]) hab 21000 0 FU 0 (by omega) (by unfold FU; omega) (by omega) a0 (fun i hi => by omega)
  rw [nI_0] at e1
  obtain ⟨A, q1, q2, q3, q3', q3'', q4, q5, q6, q7, q8, q9⟩ := val bi e2 e3
  refine ⟨gsm (gnN (fgs M f)) A, bi % 1000, msm A, D, q6, by omega, q7, ?_, ?_, wD⟩
  · have wge : ∀ x, x < 20 → wvv M f x = wg (gnN (fgs M f)) (pcv M) x := fun x hx => by
      unfold wvv wg
      rw [if_pos hx, (gnN_e hg hx).2]
      simp
    have wgl : ∀ B : List Nat, B.Sublist (gl (fgs M f) 20) → wth (wvv M f) B = wth (wg (gnN (fgs M f)) (pcv M)) B := fun B hB => wth_congr (fun x hx => wge x (List.mem_range.mp ((hB.trans glr).subset hx)))
    have ek : KV (wvv M f) (pcv M) (fil M f 20) k q = KV (wvv M f) (pcv M) (gl (fgs M f) 20) k q := by
      rw [← KV_fil (fun z => decide (0 < (gnv (fgs M f) z).toInt)) (gl (fgs M f) 20) (fun x hx hn => by
        have hx20 : x < 20 := List.mem_range.mp (glr.subset hx)
        have h1 := gnv_bd hg hx20
        have h2 := of_decide_eq_false hn
        have h3 := p2_le hx20
        unfold wvv
        rw [if_pos hx20]
        omega)]
      unfold fil gl
      rw [List.filter_filter]
      congr 1
      refine List.filter_congr (fun x _ => ?_)
      by_cases c1 : fgs M f x = -1
      · by_cases c2 : 0 < (gnv (fgs M f) x).toInt
        · simp [c1, c2]
        · simp [c1, c2]
      · simp [c1]
    rw [ek]
    have up := KV_ge (w := wvv M f) (p := pcv M) q1 k q q2 (by omega)
    rw [wgl A q1, wth_eq, q3] at up
    obtain ⟨B, b1, b2, b3, b4⟩ := KV_at (w := wvv M f) (p := pcv M) (gl (fgs M f) 20) k q
    rw [wgl B b1] at b4
    have hi : 1000 * B.length + cst (pcv M) B < 21000 := by omega
    have hn : a (1000 * B.length + cst (pcv M) B) ≠ -1 := fun z => by
      have h := d3 B.length (cst (pcv M) B) (by omega) (by omega)
      simp only at h
      rw [← ha, ← hb] at h
      unfold EK at h
      rw [if_pos (by omega)] at h
      rcases h with ⟨-, h2⟩ | ⟨E, s1, -, -, s4, -⟩
      · exact h2 B b1 ⟨rfl, rfl⟩
      · rw [z] at s4
        have l1 := gsm_le (gnN_le hg) E
        have l2 := (s1.trans glr).length_le
        rw [List.length_range] at l2
        exact nI_ne1 (by omega) s4.symm
    obtain ⟨E, r1, r2, r3, r3', r3'', r4, r5, r6, r7, r8, r9⟩ := val _ hi hn
    have g1 := r8 B b1 (by omega) (by omega)
    have g2 := e4 _ hi hn
    rw [r9, q9] at g2
    rw [wth_eq A, q3] at g2
    omega
  · unfold f_X12_looks
    simp only [mV mT, hfi, M_isIn, i01, Option.bind_some, nI_toInt (show k < 2 ^ 31 by omega), nI_toInt (show q < 2 ^ 31 by omega), Int32.reduceToInt]
    rw [if_neg (by decide), if_neg (by omega), if_neg (by omega), if_neg (fun z => z hx), lk_go a1 sB sC d1 e1]
    simp only [mR_mostSet mD, mL_mostSet mD e2, mR_most mD, mL_most mD e2, rem1000 (show bi < 2 ^ 31 by omega), Option.bind_some, ← ha, ← hb, q4, q5]
    by_cases c0 : x4 = 0
    · rw [if_pos c0, if_pos c0]
    · rw [if_neg c0, if_neg c0]
      by_cases c1 : x4 = 1
      · rw [if_pos c1, if_pos c1]
      · rw [if_neg c1, if_neg c1]
end Lk
