/-! SUMS: the reference's way, day by day -/
section Msum
variable {S : St} {mb ne a : Nat}
theorem M_sum27 (m : MOK S mb) (h4 : mi S mb 4 = nI ne) (hne : ne ≤ 600) (hb : ∀ x, x < ne → Mi S mb 15 x = 6 → 1 ≤ (Mi S mb 18 x).toInt) (D K d : Int32) : ∀ (n t fu : Nat) (v : Int64), t + n = ne → n < fu → f_X12_sumOf_27 fu S mb (nI a) D K v d (nI t) = some (mb, nI a, D, K, (List.range' t n).foldl (fun v x => if decide (Mi S mb 14 x = nI a) && (decide (Mi S mb 16 x = d) && (decide ((Mi S mb 19 x).toInt ≤ K.toInt) && decide (Mi S mb 15 x = 6))) then chg (Mi S mb) x v else v) v, d)
  | n, t, 0, v, _, h2 => by omega
  | 0, t, fu + 1, v, h1, _ => by
    unfold f_X12_sumOf_27
    simp only [mI m, h4, Option.bind_some]
    rw [if_pos (nI_le (by omega) (by omega))]; rfl
  | n + 1, t, fu + 1, v, h1, h2 => by
    have ht : t < 600 := by omega
    unfold f_X12_sumOf_27
    simp only [mI m, h4, Option.bind_some]
    rw [if_neg (nI_ge (by omega) (by omega))]
    simp only [mR_actOf m, mL_actOf m ht, mR_actSort m, mL_actSort m ht, mR_actOn m, mL_actOn m ht, mR_actTold m, mL_actTold m ht, mR_actAmount m, mL_actAmount m ht, mR_actBy m, mL_actBy m ht, Option.bind_some, nI_1, M_sum27 m h4 hne hb D K d n (t + 1) fu _ (show t + 1 + n = ne by omega) (show n < fu by omega), lt_i]
    rw [List.range'_succ, List.foldl_cons]
    show (if Mi S mb 14 t = nI a then if Mi S mb 16 t = d then if K.toInt < (Mi S mb 19 t).toInt then _ else if Mi S mb 15 t = 6 then (divL (v * (Mi S mb 17 t).toInt64) (Mi S mb 18 t).toInt64).bind _ else _ else _ else _) = _
    by_cases c1 : Mi S mb 14 t = nI a
    · rw [if_pos c1]
      by_cases c2 : Mi S mb 16 t = d
      · rw [if_pos c2]
        by_cases c3 : K.toInt < (Mi S mb 19 t).toInt
        · have c3' : ¬ (Mi S mb 19 t).toInt ≤ K.toInt := by omega
          rw [if_pos c3, if_neg (by simp [c3'])]
        · rw [if_neg c3]
          by_cases c4 : Mi S mb 15 t = 6
          · have c3' : (Mi S mb 19 t).toInt ≤ K.toInt := by omega
            rw [if_pos c4, if_pos (by simp [c1, c2, c3', c4])]
            have hp := i64_pos (hb t (by omega) c4)
            have y0 : (Mi S mb 18 t).toInt64 ≠ 0 := fun e => by rw [e] at hp; exact absurd hp (by decide)
            unfold chg gdv divL
            rw [if_neg y0, if_pos c4]
            simp only [Option.bind_some, cmp_neg, cmp_eq]
            show (if ¬ v * (Mi S mb 17 t).toInt64 < 0 then _ else if v * (Mi S mb 17 t).toInt64 / (Mi S mb 18 t).toInt64 * (Mi S mb 18 t).toInt64 = v * (Mi S mb 17 t).toInt64 then _ else _) = _
            by_cases c5 : v * (Mi S mb 17 t).toInt64 < 0
            · rw [if_neg (fun q => q c5)]
              by_cases c6 : v * (Mi S mb 17 t).toInt64 / (Mi S mb 18 t).toInt64 * (Mi S mb 18 t).toInt64 = v * (Mi S mb 17 t).toInt64
              · rw [if_pos c6, if_neg (fun q => q.2 c6)]
              · rw [if_neg c6, if_pos ⟨c5, c6⟩]
            · rw [if_pos c5, if_neg (fun q => c5 q.1)]
          · rw [if_neg c4, if_neg (by simp [c4])]
      · rw [if_neg c2, if_neg (by simp [c2])]
    · rw [if_neg c1, if_neg (by simp [c1])]
theorem M_sum155 (m : MOK S mb) (h4 : mi S mb 4 = nI ne) (hne : ne ≤ 600) (D K d : Int32) : ∀ (n t fu : Nat) (v : Int64), t + n = ne → n < fu → f_X12_sumOf_155 fu S mb (nI a) D K v d (nI t) = some (mb, nI a, D, K, (List.range' t n).foldl (fun v x => if decide (Mi S mb 14 x = nI a) && (decide (Mi S mb 16 x = d) && (decide ((Mi S mb 19 x).toInt ≤ K.toInt) && decide (Mi S mb 15 x ≠ 6))) then chg (Mi S mb) x v else v) v, d)
  | n, t, 0, v, _, h2 => by omega
  | 0, t, fu + 1, v, h1, _ => by
    unfold f_X12_sumOf_155
    simp only [mI m, h4, Option.bind_some]
    rw [if_pos (nI_le (by omega) (by omega))]; rfl
  | n + 1, t, fu + 1, v, h1, h2 => by
    have ht : t < 600 := by omega
    unfold f_X12_sumOf_155
    simp only [mI m, h4, Option.bind_some]
    rw [if_neg (nI_ge (by omega) (by omega))]
    simp only [mR_actOf m, mL_actOf m ht, mR_actSort m, mL_actSort m ht, mR_actOn m, mL_actOn m ht, mR_actTold m, mL_actTold m ht, mR_actAmount m, mL_actAmount m ht, Option.bind_some, nI_1, M_sum155 m h4 hne D K d n (t + 1) fu _ (show t + 1 + n = ne by omega) (show n < fu by omega), lt_i]
    rw [List.range'_succ, List.foldl_cons]
    show (if Mi S mb 14 t = nI a then if Mi S mb 16 t = d then if K.toInt < (Mi S mb 19 t).toInt then _ else if Mi S mb 15 t = 6 then _ else _ else _ else _) = _
    by_cases c1 : Mi S mb 14 t = nI a
    · rw [if_pos c1]
      by_cases c2 : Mi S mb 16 t = d
      · rw [if_pos c2]
        by_cases c3 : K.toInt < (Mi S mb 19 t).toInt
        · have c3' : ¬ (Mi S mb 19 t).toInt ≤ K.toInt := by omega
          rw [if_pos c3, if_neg (by simp [c3'])]
        · rw [if_neg c3]
          have c3' : (Mi S mb 19 t).toInt ≤ K.toInt := by omega
          by_cases c4 : Mi S mb 15 t = 6
          · rw [if_pos c4, if_neg (by simp [c4])]
          · rw [if_neg c4, if_pos (by simp [c1, c2, c3', c4])]
            unfold chg
            rw [if_neg c4]; rfl
      · rw [if_neg c2, if_neg (by simp [c2])]
    · rw [if_neg c1, if_neg (by simp [c1])]
/-- an entry that the next day may be of -/
abbrev cnd (M : MI) (a : Nat) (d K : Int32) (x : Nat) : Prop := M 14 x = nI a ∧ (M 19 x).toInt ≤ K.toInt ∧ d.toInt ≤ (M 16 x).toInt
theorem M_next6 (m : MOK S mb) (h4 : mi S mb 4 = nI ne) (hne : ne ≤ 600) (hd : ∀ x, x < ne → 0 ≤ (Mi S mb 16 x).toInt) (d K : Int32) : ∀ (n t fu : Nat) (r : Int32), t + n = ne → n < fu → (r = -1 ∧ (∀ y, y < t → ¬ cnd (Mi S mb) a d K y) ∨ ∃ z, z < t ∧ cnd (Mi S mb) a d K z ∧ r = Mi S mb 16 z ∧ ∀ y, y < t → cnd (Mi S mb) a d K y → (Mi S mb 16 z).toInt ≤ (Mi S mb 16 y).toInt) → ∃ r', f_X12_nextDay_6 fu S mb (nI a) d K r (nI t) = some r' ∧ (r' = -1 ∧ (∀ y, y < ne → ¬ cnd (Mi S mb) a d K y) ∨ ∃ z, z < ne ∧ cnd (Mi S mb) a d K z ∧ r' = Mi S mb 16 z ∧ ∀ y, y < ne → cnd (Mi S mb) a d K y → (Mi S mb 16 z).toInt ≤ (Mi S mb 16 y).toInt)
  | n, t, 0, r, _, h2, _ => by omega
  | 0, t, fu + 1, r, h1, _, hr => by
    unfold f_X12_nextDay_6
    simp only [mI m, h4, Option.bind_some]
    rw [if_pos (nI_le (by omega) (by omega))]
    have : t = ne := by omega
    subst this
    exact ⟨r, rfl, hr⟩
  | n + 1, t, fu + 1, r, h1, h2, hr => by
    have ht : t < 600 := by omega
    have htn : t < ne := by omega
    unfold f_X12_nextDay_6 f_X12_nextDay_66
    simp only [mI m, h4, Option.bind_some]
    rw [if_neg (nI_ge (by omega) (by omega))]
    simp only [mR_actOf m, mL_actOf m ht, mR_actOn m, mL_actOn m ht, mR_actTold m, mL_actTold m ht, Option.bind_some, nI_1, lt_i, le_i]
    show ∃ r', (if Mi S mb 14 t = nI a then if K.toInt < (Mi S mb 19 t).toInt then _ else if (Mi S mb 16 t).toInt < d.toInt then _ else if r = -1 then f_X12_nextDay_6 fu S mb (nI a) d K (Mi S mb 16 t) (nI (t + 1)) else if r.toInt ≤ (Mi S mb 16 t).toInt then _ else f_X12_nextDay_6 fu S mb (nI a) d K (Mi S mb 16 t) (nI (t + 1)) else _) = some r' ∧ _
    have keep : ¬ cnd (Mi S mb) a d K t → ∃ r', f_X12_nextDay_6 fu S mb (nI a) d K r (nI (t + 1)) = some r' ∧ (r' = -1 ∧ (∀ y, y < ne → ¬ cnd (Mi S mb) a d K y) ∨ ∃ z, z < ne ∧ cnd (Mi S mb) a d K z ∧ r' = Mi S mb 16 z ∧ ∀ y, y < ne → cnd (Mi S mb) a d K y → (Mi S mb 16 z).toInt ≤ (Mi S mb 16 y).toInt) := by
      intro hn
      refine M_next6 m h4 hne hd d K n (t + 1) fu r (by omega) (by omega) ?_
      rcases hr with ⟨q1, q2⟩ | ⟨z, z1, z2, z3, z4⟩
      · refine Or.inl ⟨q1, fun y hy => ?_⟩
        by_cases e : y = t
        · rw [e]; exact hn
        · exact q2 y (by omega)
      · refine Or.inr ⟨z, by omega, z2, z3, fun y hy hc => ?_⟩
        by_cases e : y = t
        · rw [e] at hc; exact absurd hc hn
        · exact z4 y (by omega) hc
    by_cases c1 : Mi S mb 14 t = nI a
    · rw [if_pos c1]
      by_cases c2 : K.toInt < (Mi S mb 19 t).toInt
      · rw [if_pos c2]; exact keep (fun q => by have := q.2.1; omega)
      · rw [if_neg c2]
        by_cases c3 : (Mi S mb 16 t).toInt < d.toInt
        · rw [if_pos c3]; exact keep (fun q => by have := q.2.2; omega)
        · rw [if_neg c3]
          have hct : cnd (Mi S mb) a d K t := ⟨c1, by omega, by omega⟩
          by_cases c4 : r = -1
          · rw [if_pos c4]
            refine M_next6 m h4 hne hd d K n (t + 1) fu _ (by omega) (by omega) (Or.inr ⟨t, by omega, hct, rfl, fun y hy hc => ?_⟩)
            rcases hr with ⟨q1, q2⟩ | ⟨z, z1, z2, z3, z4⟩
            · by_cases e : y = t
              · rw [e]; exact Int.le_refl _
              · exact absurd hc (q2 y (by omega))
            · have := hd z (by omega)
              rw [← z3, c4] at this
              exact absurd this (by decide)
          · rw [if_neg c4]
            rcases hr with ⟨q1, -⟩ | ⟨z, z1, z2, z3, z4⟩
            · exact absurd q1 c4
            · rw [z3]
              by_cases c5 : (Mi S mb 16 z).toInt ≤ (Mi S mb 16 t).toInt
              · rw [if_pos c5]
                refine M_next6 m h4 hne hd d K n (t + 1) fu _ (by omega) (by omega) (Or.inr ⟨z, by omega, z2, rfl, fun y hy hc => ?_⟩)
                by_cases e : y = t
                · rw [e]; exact c5
                · exact z4 y (by omega) hc
              · rw [if_neg c5]
                refine M_next6 m h4 hne hd d K n (t + 1) fu _ (by omega) (by omega) (Or.inr ⟨t, by omega, hct, rfl, fun y hy hc => ?_⟩)
                by_cases e : y = t
                · rw [e]; exact Int.le_refl _
                · have := z4 y (by omega) hc
                  omega
    · rw [if_neg c1]; exact keep (fun q => c1 q.1)
end Msum
