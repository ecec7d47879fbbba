/-! HEIRS: the reference's way down -/
section Down
variable {xb np p : Nat} {H : Nat → Bool}
/-- what the reference's rows of lines hold from t on -/
theorem M_lines6 {T : St} {mb q : Nat} {M : MI} (m : MOK T mb) (h2 : mi T mb 2 = nI np) (hn : np ≤ 24) (h8 : ∀ c, c < np → mi T (mb + 8) c = M 8 c) (hh : ∀ c, c < np → q < c → mi T (mb + 46) c = if H c then 1 else 0) : ∀ (n t fu v : Nat), t + n = np → n < fu → q < t → f_X12_linesOf_6 fu T mb (nI q) (nI v) (nI t) = some (nI (v + cntF (fun c => decide (M 8 c = nI q) && H c) t np)) := by
  intro n
  induction n with
  | zero =>
    intro t fu v h1 h3 hq
    obtain ⟨fu, rfl⟩ : ∃ k, fu = k + 1 := ⟨fu - 1, by omega⟩
    unfold f_X12_linesOf_6
    simp only [mI m, h2, Option.bind_some]
    rw [if_pos (nI_le (by omega) (by omega)), cntF_n _ (by omega)]; rfl
  | succ n ih =>
    intro t fu v h1 h3 hq
    obtain ⟨fu, rfl⟩ : ∃ k, fu = k + 1 := ⟨fu - 1, by omega⟩
    have ht : t < np := by omega
    have ht24 : t < 24 := by omega
    unfold f_X12_linesOf_6
    simp only [mI m, h2, Option.bind_some]
    rw [if_neg (nI_ge (by omega) (by omega))]
    simp only [mR_parent m, mL_parent m ht24, h8 t ht, mR_hasLine m, mL_hasLine m ht24, hh t ht hq, Option.bind_some, nI_1]
    rw [show nI v + 0 = nI v from Int32.add_zero _, ih (t + 1) fu v (by omega) (by omega) (by omega), ih (t + 1) fu (v + 1) (by omega) (by omega) (by omega), cntF_s _ ht]
    by_cases c1 : M 8 t = nI q
    · rw [if_pos c1]
      by_cases c2 : H t = true
      · rw [if_pos c2, if_neg (by decide), if_pos (by simp [c1, c2])]
        congr 2; omega
      · rw [if_neg c2, if_pos rfl, if_neg (by simp [c2])]; rfl
    · rw [if_neg c1, if_neg (by simp [c1])]; rfl
theorem cntF_ge {M : MI} (hp : PAR M np) (hn : np ≤ 24) {q : Nat} (hq : q < np) : cntF (fun c => decide (M 8 c = nI q) && H c) (q + 1) np = lcn M np H q := by
  unfold lcn
  rw [← cntF_0]
  have : ∀ d, d ≤ q + 1 → cntF (fun c => decide (M 8 c = nI q) && H c) (q + 1) np = cntF (fun c => decide (M 8 c = nI q) && H c) (q + 1 - d) np := by
    intro d
    induction d with
    | zero => intro _; rfl
    | succ d ihd =>
      intro hd
      rw [ihd (by omega)]
      have hs := cntF_s (fun c => decide (M 8 c = nI q) && H c) (t := q + 1 - (d + 1)) (n := np) (by omega)
      have hno : ¬ (decide (M 8 (q + 1 - (d + 1)) = nI q) && H (q + 1 - (d + 1))) = true := by
        intro z
        rw [Bool.and_eq_true, decide_eq_true_eq] at z
        have := hp.lt hn (by omega) (by omega) z.1
        omega
      rw [hs, show q + 1 - (d + 1) + 1 = q + 1 - d by omega, if_neg hno]
      rfl
  rw [this (q + 1) (Nat.le_refl _), Nat.sub_self]
theorem M_linesOf {T : St} {mb q : Nat} {M : MI} (m : MOK T mb) (hp : PAR M np) (h2 : mi T mb 2 = nI np) (hn : np ≤ 24) (h8 : ∀ c, c < np → mi T (mb + 8) c = M 8 c) (hq : q < np) (hh : ∀ c, c < np → q < c → mi T (mb + 46) c = if H c then 1 else 0) : f_X12_linesOf T mb (nI q) = some (nI (lcn M np H q)) := by
  unfold f_X12_linesOf
  have g := M_lines6 m h2 hn h8 hh (np - (q + 1)) (q + 1) FU 0 (by omega) (by unfold FU; omega) (by omega)
  rw [nI_0, Nat.zero_add, cntF_ge hp hn hq] at g
  rw [nI_1, g]
/-- the rows that the reference works in here -/
def P3 (xb z : Nat) : Prop := z = xb + 22 + 46 ∨ z = xb + 22 + 47 ∨ z = xb + 22 + 48
theorem M_sh7 {M : MI} (hp : PAR M np) (hn : np ≤ 24) (hH : HL M np H) : ∀ (t fu : Nat) (T : St), t ≤ np → t < fu → MOK T (xb + 22) → mi T (xb + 22) 2 = nI np → (∀ c, c < np → mi T (xb + 22 + 8) c = M 8 c ∧ mi T (xb + 22 + 9) c = M 9 c) → (∀ c, c < np → t ≤ c → mi T (xb + 22 + 46) c = (if H c then 1 else 0) ∧ ml T (xb + 22 + 47) c = (if c = p then 1 else 0) ∧ ml T (xb + 22 + 48) c = 1) → p < np → ∃ T', f_X12_shares_7 fu T (xb + 22) (nI p) (nI t - 1) = some (xb + 22, nI p, T') ∧ SW (P3 xb) T T' ∧ ∀ c, c < np → mi T' (xb + 22 + 46) c = (if H c then 1 else 0) ∧ ml T' (xb + 22 + 47) c = (if c = p then 1 else 0) ∧ ml T' (xb + 22 + 48) c = 1 := by
  intro t
  induction t with
  | zero =>
    intro fu T h1 h3 m h2 hr hv hpp
    obtain ⟨fu, rfl⟩ : ∃ k, fu = k + 1 := ⟨fu - 1, by omega⟩
    unfold f_X12_shares_7
    rw [if_pos (by decide)]
    exact ⟨T, rfl, SW.rf _ _, fun c hc => hv c hc (by omega)⟩
  | succ t ih =>
    intro fu T h1 h3 m h2 hr hv hpp
    obtain ⟨fu, rfl⟩ : ∃ k, fu = k + 1 := ⟨fu - 1, by omega⟩
    have ht : t < np := by omega
    have ht24 : t < 24 := by omega
    have hHt : H t = true ↔ M 9 t = -1 ∨ 0 < lcn M np H t := by
      rw [hH t ht]
      unfold lcn
      rw [cntB_pos]
      constructor
      · rintro (e | ⟨c, c1, c2, c3⟩)
        · exact Or.inl e
        · exact Or.inr ⟨c, c1, by rw [Bool.and_eq_true, decide_eq_true_eq]; exact ⟨c2, c3⟩⟩
      · rintro (e | ⟨c, c1, c2⟩)
        · exact Or.inl e
        · rw [Bool.and_eq_true, decide_eq_true_eq] at c2
          exact Or.inr ⟨c, c1, c2⟩
    have hmm : ∀ z : Nat, nI z + (-1) = nI z - 1 := fun z => by rw [Int32.sub_eq_add_neg]
    have hl24 : lcn M np H t ≤ np := cntB_le _ _
    have step : ∀ b : Int32, b = (if H t then 1 else 0) → ∃ T', f_X12_shares_39 (f_X12_shares_7 fu) T (xb + 22) (nI p) (nI t) b (nI t) (some (xb + 22 + 46)) = some (xb + 22, nI p, T') ∧ SW (P3 xb) T T' ∧ ∀ c, c < np → mi T' (xb + 22 + 46) c = (if H c then 1 else 0) ∧ ml T' (xb + 22 + 47) c = (if c = p then 1 else 0) ∧ ml T' (xb + 22 + 48) c = 1 := by
      intro bb hb
      have nb : nrw 17 bb = bb := by
        rw [hb]
        by_cases q : H t = true
        · rw [if_pos q]; rfl
        · rw [if_neg q]; rfl
      unfold f_X12_shares_39 f_X12_shares_55
      rw [mS_hasLine m ht24, nb]
      simp only [Option.bind_some]
      obtain ⟨A, hA⟩ : ∃ A, A = setI T (xb + 22 + 46) t bb := ⟨_, rfl⟩
      rw [← hA]
      have wA : SW (P3 xb) T A := by rw [hA]; exact SW_I _ _ (Or.inl rfl)
      have mA := m.sw wA
      simp only [mR_above mA, Option.bind_some, mS_above mA ht24, hmm]
      have both : ∀ v : Int64, v = (if t = p then 1 else 0) → ∃ T', (((getR (setL A (xb + 22 + 47) t v) (some (xb + 22)) 13 68).bind fun v57 => (stL (setL A (xb + 22 + 47) t v) v57 (nI t) 1).bind fun S62 => f_X12_shares_7 fu S62 (xb + 22) (nI p) (nI t - 1))) = some (xb + 22, nI p, T') ∧ SW (P3 xb) T T' ∧ ∀ c, c < np → mi T' (xb + 22 + 46) c = (if H c then 1 else 0) ∧ ml T' (xb + 22 + 47) c = (if c = p then 1 else 0) ∧ ml T' (xb + 22 + 48) c = 1 := by
        intro v hv'
        obtain ⟨B, hB⟩ : ∃ B, B = setL A (xb + 22 + 47) t v := ⟨_, rfl⟩
        rw [← hB]
        have wB : SW (P3 xb) A B := by rw [hB]; exact SW_L _ _ (Or.inr (Or.inl rfl))
        have mB := mA.sw wB
        simp only [mR_below mB, mS_below mB ht24, Option.bind_some]
        obtain ⟨C, hC⟩ : ∃ C, C = setL B (xb + 22 + 48) t 1 := ⟨_, rfl⟩
        rw [← hC]
        have wC : SW (P3 xb) B C := by rw [hC]; exact SW_L _ _ (Or.inr (Or.inr rfl))
        have wT := (wA.tr wB).tr wC
        have oth : ∀ z, ¬ P3 xb z → mi C z = mi T z := fun z hz => (wT.2.2.2 z hz).1
        obtain ⟨T', g1, g2, g3⟩ := ih fu C (by omega) (by omega) (m.sw wT) (by rw [oth _ (by unfold P3; omega)]; exact h2) (fun c hc => by
          rw [oth _ (by unfold P3; omega), oth _ (by unfold P3; omega)]
          exact hr c hc) (fun c hc htc => by
          have l46 : mi C (xb + 22 + 46) c = if c = t then bb else mi T (xb + 22 + 46) c := by
            rw [hC, mi_setL_, hB, mi_setL_, hA, mi_setI_i]
            exact ifc ⟨fun z => z.2, fun z => ⟨rfl, z⟩⟩
          have l47 : ml C (xb + 22 + 47) c = if c = t then v else ml T (xb + 22 + 47) c := by
            rw [hC, ml_setL_i, if_neg (by omega), hB, ml_setL_i, hA, ml_setI_]
            exact ifc ⟨fun z => z.2, fun z => ⟨rfl, z⟩⟩
          have l48 : ml C (xb + 22 + 48) c = if c = t then 1 else ml T (xb + 22 + 48) c := by
            rw [hC, ml_setL_i, hB, ml_setL_i, hA, ml_setI_]
            by_cases e : c = t
            · rw [if_pos ⟨rfl, e⟩, if_pos e]
            · rw [if_neg (fun z => e z.2), if_neg (by omega), if_neg e]
          rw [l46, l47, l48]
          by_cases e : c = t
          · rw [if_pos e, if_pos e, if_pos e, e]
            exact ⟨hb, hv', rfl⟩
          · rw [if_neg e, if_neg e, if_neg e]
            exact hv c hc (by omega)) hpp
        exact ⟨T', g1, wT.tr g2, g3⟩
      by_cases e : t = p
      · rw [if_pos (by rw [e])]
        exact both 1 (by rw [if_pos e])
      · rw [if_neg (fun z => e ((nI_eq (by omega) (by omega)).mp z))]
        exact both 0 (by rw [if_neg e])
    unfold f_X12_shares_7 f_X12_shares_34
    rw [nI_pred, if_neg (nI_pos (by omega))]
    simp only [mR_hasLine m, mR_died m, mL_died m ht24, (hr t ht).2, mV m, M_linesOf m hp h2 hn (fun c hc => (hr c hc).1) ht (fun c hc hc2 => (hv c hc (by omega)).1), Option.bind_some]
    by_cases c1 : M 9 t = -1
    · rw [if_pos c1]
      exact step 1 (by rw [if_pos (hHt.mpr (Or.inl c1))])
    · rw [if_neg c1]
      by_cases c2 : 0 < lcn M np H t
      · rw [if_neg (nI_nle c2 (by omega))]
        exact step 1 (by rw [if_pos (hHt.mpr (Or.inr c2))])
      · rw [if_pos (by rw [show lcn M np H t = 0 by omega]; decide)]
        refine step 0 ?_
        rw [if_neg]
        intro z
        rcases hHt.mp z with z | z
        · exact c1 z
        · exact c2 z
end Down
