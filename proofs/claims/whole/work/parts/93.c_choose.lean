/-! LOOKS: the class lays its runs -/
def PH (xb z : Nat) : Prop := xb + 18 ≤ z ∧ z ≤ xb + 21
section Lay
variable {xb : Nat} {p : Nat → Nat} {W : Nat → Int64}
/-- the rows hold these years -/
def RW (T : St) (xb : Nat) (p : Nat → Nat) (W : Nat → Int64) (i y : Nat) : Prop := mi T (xb + 20) i = nI (p y) ∧ ml T (xb + 19) i = W y
theorem X_cr2 {n : Nat} (h20 : n ≤ 20) : ∀ (m i fu : Nat) (T : St), i + m = n → m < fu → XOK T xb → mi T (xb + 18) 3 = nI n → ∃ T', f_X1_closeRun_2 fu T (xb + 18) (nI i) = some T' ∧ SW (fun z => z = xb + 21) T T' ∧ (∀ j, i ≤ j → j < n → mi T' (xb + 21) j = nI n) ∧ ∀ j, j < i → mi T' (xb + 21) j = mi T (xb + 21) j := by
  intro m
  induction m with
  | zero =>
    intro i fu T e1 e2 x h3
    obtain ⟨fu, rfl⟩ : ∃ k, fu = k + 1 := ⟨fu - 1, by omega⟩
    unfold f_X1_closeRun_2
    rw [if_neg (by rw [lt_i, nI_toInt (by omega)]; simp only [Int32.reduceToInt]; omega)]
    simp only [getI_s (xK_chooser x), h3, Option.bind_some]
    rw [if_pos (nI_le (by omega) (by omega))]
    exact ⟨T, rfl, SW.rf _ _, fun j h1 h2 => by omega, fun j _ => rfl⟩
  | succ m ih =>
    intro i fu T e1 e2 x h3
    obtain ⟨fu, rfl⟩ : ∃ k, fu = k + 1 := ⟨fu - 1, by omega⟩
    unfold f_X1_closeRun_2
    rw [if_neg (by rw [lt_i, nI_toInt (by omega)]; simp only [Int32.reduceToInt]; omega)]
    simp only [getI_s (xK_chooser x), h3, Option.bind_some]
    rw [if_neg (nI_ge (by omega) (by omega)), if_neg (by rw [le_i, nI_toInt (by omega)]; simp only [Int32.reduceToInt]; omega)]
    simp only [xR_cnext x, xS_cnext x (show i < 20 by omega), nrw15, Option.bind_some, nI_1]
    obtain ⟨A, hA⟩ : ∃ A, A = setI T (xb + 21) i (nI n) := ⟨_, rfl⟩
    rw [← hA]
    have wA : SW (fun z => z = xb + 21) T A := by rw [hA]; exact SW_I _ _ rfl
    obtain ⟨T', g1, g2, g3, g4⟩ := ih (i + 1) fu A (by omega) (by omega) (x.sw wA) (by rw [(wA.2.2.2 (xb + 18) (by omega)).1]; exact h3)
    refine ⟨T', g1, wA.tr g2, fun j h1 h2 => ?_, fun j h1 => ?_⟩
    · by_cases e : j = i
      · rw [g4 j (by omega), hA, mi_setI_i, if_pos ⟨rfl, e⟩]
      · exact g3 j (by omega) h2
    · rw [g4 j (by omega), hA, mi_setI_i, if_neg (by omega)]
/-- room is made for one more in its run -/
theorem X_ag23 {cl : List Nat} {s c : Nat} {x2 x3 : Int32} (hl : cl.length < 20) (hc : c ≤ 99) (hp : ∀ y, p y ≤ 99) (hs : s ≤ cl.length) : ∀ (e fu : Nat) (T : St), s ≤ e → e ≤ cl.length → e - s < fu → XOK T xb → (∀ i, i < e → RW T xb p W i (cl.getD i 0)) → (∀ i, e ≤ i → i < cl.length → RW T xb p W (i + 1) (cl.getD i 0) ∧ c < p (cl.getD i 0)) → ∃ e' T', f_X1_addGap_23 fu T (xb + 18) (nI s) x2 x3 (nI c) (nI e) = some (xb + 18, x2, x3, nI c, nI e', T') ∧ SW (fun z => z = xb + 19 ∨ z = xb + 20) T T' ∧ s ≤ e' ∧ e' ≤ e ∧ (∀ i, i < e' → RW T' xb p W i (cl.getD i 0)) ∧ (∀ i, e' ≤ i → i < cl.length → RW T' xb p W (i + 1) (cl.getD i 0) ∧ c < p (cl.getD i 0)) ∧ (s < e' → p (cl.getD (e' - 1) 0) ≤ c) := by
  intro e
  induction e with
  | zero =>
    intro fu T h1 h2 h3 x hr1 hr2
    obtain ⟨fu, rfl⟩ : ∃ k, fu = k + 1 := ⟨fu - 1, by omega⟩
    unfold f_X1_addGap_23
    rw [if_pos (nI_le (by omega) (by omega))]
    exact ⟨0, T, rfl, SW.rf _ _, h1, Nat.le_refl _, hr1, hr2, fun z => by omega⟩
  | succ e ih =>
    intro fu T h1 h2 h3 x hr1 hr2
    obtain ⟨fu, rfl⟩ : ∃ k, fu = k + 1 := ⟨fu - 1, by omega⟩
    unfold f_X1_addGap_23
    by_cases c0 : e + 1 = s
    · rw [if_pos (nI_le (by omega) (by omega))]
      exact ⟨e + 1, T, rfl, SW.rf _ _, h1, Nat.le_refl _, hr1, hr2, fun z => by omega⟩
    · rw [if_neg (nI_ge (by omega) (by omega)), if_neg (by rw [le_i, nI_toInt (by omega)]; simp only [Int32.reduceToInt]; omega)]
      obtain ⟨a1, a2⟩ := hr1 e (by omega)
      have hpe := hp (cl.getD e 0)
      simp only [nI_pred, xR_cprice x, xL_cprice x (show e < 20 by omega), a1, Option.bind_some]
      by_cases c1 : p (cl.getD e 0) ≤ c
      · rw [if_pos (by rw [le_i, nI_toInt (by omega), nI_toInt (by omega)]; omega)]
        exact ⟨e + 1, T, rfl, SW.rf _ _, h1, Nat.le_refl _, hr1, hr2, fun _ => c1⟩
      · rw [if_neg (by rw [le_i, nI_toInt (by omega), nI_toInt (by omega)]; omega)]
        simp only [xS_cprice x (show e + 1 < 20 by omega), nrw15, Option.bind_some]
        obtain ⟨A, hA⟩ : ∃ A, A = setI T (xb + 20) (e + 1) (nI (p (cl.getD e 0))) := ⟨_, rfl⟩
        rw [← hA]
        have wA : SW (fun z => z = xb + 19 ∨ z = xb + 20) T A := by rw [hA]; exact SW_I _ _ (Or.inr rfl)
        have xA := x.sw wA
        have aL : ml A (xb + 19) = ml T (xb + 19) := by rw [hA]; rfl
        simp only [xR_cworth xA, xL_cworth xA (show e < 20 by omega), aL, a2, xS_cworth xA (show e + 1 < 20 by omega), Option.bind_some, pk_m1]
        obtain ⟨B, hB⟩ : ∃ B, B = setL A (xb + 19) (e + 1) (W (cl.getD e 0)) := ⟨_, rfl⟩
        rw [← hB]
        have wB : SW (fun z => z = xb + 19 ∨ z = xb + 20) T B := wA.tr (by rw [hB]; exact SW_L _ _ (Or.inl rfl))
        have bI : ∀ i, mi B (xb + 20) i = if i = e + 1 then nI (p (cl.getD e 0)) else mi T (xb + 20) i := fun i => by
          rw [hB]
          show mi A (xb + 20) i = _
          rw [hA, mi_setI_i]
          by_cases y : i = e + 1
          · rw [if_pos ⟨rfl, y⟩, if_pos y]
          · rw [if_neg (fun q => y q.2), if_neg y]
        have bL : ∀ i, ml B (xb + 19) i = if i = e + 1 then W (cl.getD e 0) else ml T (xb + 19) i := fun i => by
          rw [hB, ml_setL_i]
          by_cases y : i = e + 1
          · rw [if_pos ⟨rfl, y⟩, if_pos y]
          · rw [if_neg (fun q => y q.2), if_neg y, aL]
        obtain ⟨e', T', g1, g2, g3, g4, g5, g6, g7⟩ := ih fu B (by omega) (by omega) (by omega) (x.sw wB) (fun i hi => by
          unfold RW
          rw [bI, bL, if_neg (by omega), if_neg (by omega)]
          exact hr1 i (by omega)) (fun i h5 h6 => by
          unfold RW
          rw [bI, bL]
          by_cases y : i = e
          · rw [if_pos (by omega), if_pos (by omega), y]
            exact ⟨⟨rfl, rfl⟩, by omega⟩
          · rw [if_neg (by omega), if_neg (by omega)]
            exact hr2 i (by omega) h6)
        exact ⟨e', T', g1, wB.tr g2, g3, by omega, g5, g6, g7⟩
end Lay
