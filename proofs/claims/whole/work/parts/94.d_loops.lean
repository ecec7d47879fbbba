/-! THE CONSTRUCTORS: their loops -/
def PCl (mb z : Nat) : Prop := mb + 20 ≤ z ∧ z ≤ mb + 26
section Clr
variable {mb s : Nat}
theorem M_cl2 (hs : s < 4) : ∀ (n t fu : Nat) (T : St), t + n = 4 → n < fu → MOK T mb → ∃ T', f_X12_clears_2 fu T mb (nI s) (nI t) = some (mb, nI s, T') ∧ SW (fun z => z = mb + 20) T T' ∧ ml T' = ml T ∧ (∀ k, t ≤ k → k < 4 → mi T' (mb + 20) (4 * s + k) = 5) ∧ ∀ j, (∀ k, t ≤ k → k < 4 → j ≠ 4 * s + k) → mi T' (mb + 20) j = mi T (mb + 20) j := by
  intro n
  induction n with
  | zero =>
    intro t fu T e1 e2 m
    obtain ⟨fu, rfl⟩ : ∃ k, fu = k + 1 := ⟨fu - 1, by omega⟩
    unfold f_X12_clears_2
    rw [if_pos (by rw [le_i, nI_toInt (by omega)]; simp only [Int32.reduceToInt]; omega)]
    exact ⟨T, rfl, SW.rf _ _, rfl, fun k h1 h2 => by omega, fun j _ => rfl⟩
  | succ n ih =>
    intro t fu T e1 e2 m
    obtain ⟨fu, rfl⟩ : ∃ k, fu = k + 1 := ⟨fu - 1, by omega⟩
    have ix : (4 : Int32) * nI s + nI t = nI (4 * s + t) := by rw [show (4 : Int32) = nI 4 from rfl, pk_mul, nI_add]
    unfold f_X12_clears_2
    rw [if_neg (by rw [le_i, nI_toInt (by omega)]; simp only [Int32.reduceToInt]; omega)]
    simp only [mR_sleepYears m, ix, mS_sleepYears m (show 4 * s + t < 16 by omega), nrw15, Option.bind_some, nI_1]
    obtain ⟨A, hA⟩ : ∃ A, A = setI T (mb + 20) (4 * s + t) 5 := ⟨_, rfl⟩
    rw [← hA]
    have wA : SW (fun z => z = mb + 20) T A := by rw [hA]; exact SW_I _ _ rfl
    obtain ⟨T', g1, g2, g3, g4, g5⟩ := ih (t + 1) fu A (by omega) (by omega) (m.sw wA)
    refine ⟨T', g1, wA.tr g2, by rw [g3, hA]; rfl, fun k h1 h2 => ?_, fun j hj => ?_⟩
    · by_cases e : k = t
      · rw [g5 _ (fun q q1 q2 => by omega), hA, mi_setI_i, if_pos ⟨rfl, by omega⟩]
      · exact g4 k (by omega) h2
    · rw [g5 j (fun q q1 q2 => hj q (by omega) q2), hA, mi_setI_i, if_neg (fun z => hj t (by omega) (by omega) z.2)]
theorem cl_go {F : Nat} {T A B : St} {x0 : Nat} {x1 : Int32} (h : f_X12_clears_2 F T x0 x1 0 = some (x0, x1, A)) (h2 : ((getR A (some x0) 13 25).bind fun v25 =>
    (stI A v25 15 x1 63).bind fun S31 =>
    (getR S31 (some x0) 13 26).bind fun v33 =>
    (stI S31 v33 15 x1 30).bind fun S39 =>
    (getR S39 (some x0) 13 27).bind fun v41 =>
    (stI S39 v41 15 x1 10).bind fun S47 =>
    (getR S47 (some x0) 13 28).bind fun v49 =>
    (stI S47 v49 15 x1 0).bind fun S54 =>
    (getR S54 (some x0) 13 29).bind fun v56 =>
    (stI S54 v56 15 x1 0).bind fun S61 =>
    (getR S61 (some x0) 13 30).bind fun v63 =>
    (stI S61 v63 15 x1 0).bind fun S68 =>
    some S68) = some B) : ((f_X12_clears_2 F T x0 x1 0).bind fun (x0, x1_2, S_2) => (getR S_2 (some x0) 13 25).bind fun v25 =>
    (stI S_2 v25 15 x1_2 63).bind fun S31 =>
    (getR S31 (some x0) 13 26).bind fun v33 =>
    (stI S31 v33 15 x1_2 30).bind fun S39 =>
    (getR S39 (some x0) 13 27).bind fun v41 =>
    (stI S39 v41 15 x1_2 10).bind fun S47 =>
    (getR S47 (some x0) 13 28).bind fun v49 =>
    (stI S47 v49 15 x1_2 0).bind fun S54 =>
    (getR S54 (some x0) 13 29).bind fun v56 =>
    (stI S54 v56 15 x1_2 0).bind fun S61 =>
    (getR S61 (some x0) 13 30).bind fun v63 =>
    (stI S61 v63 15 x1_2 0).bind fun S68 =>
    some S68) = some B := by
  rw [h]
  exact h2
/-- the values of a law that is cleared -/
def clv : Nat → Int32
  | 21 => 63
  | 22 => 30
  | 23 => 10
  | _ => 0
theorem M_clears {T : St} (m : MOK T mb) (hs : s < 4) : ∃ T', f_X12_clears T mb (nI s) = some T' ∧ SW (PCl mb) T T' ∧ ml T' = ml T ∧ (∀ j, mi T' (mb + 20) j = if 4 * s ≤ j ∧ j < 4 * s + 4 then 5 else mi T (mb + 20) j) ∧ ∀ o, 21 ≤ o → o ≤ 26 → ∀ j, mi T' (mb + o) j = if j = s then clv o else mi T (mb + o) j := by
  obtain ⟨A, a1, a2, a3, a4, a5⟩ := M_cl2 (mb := mb) hs 4 0 FU T (by omega) (by unfold FU; omega) m
  rw [nI_0] at a1
  have mA := m.sw a2
  obtain ⟨B, hB⟩ : ∃ B, B = setI A (mb + 21) s 63 := ⟨_, rfl⟩
  have wB : SW (PCl mb) A B := by rw [hB]; exact SW_I _ _ (by unfold PCl; omega)
  have mB := mA.sw wB
  obtain ⟨C, hC⟩ : ∃ C, C = setI B (mb + 22) s 30 := ⟨_, rfl⟩
  have wC : SW (PCl mb) A C := wB.tr (by rw [hC]; exact SW_I _ _ (by unfold PCl; omega))
  have mC := mA.sw wC
  obtain ⟨D, hD⟩ : ∃ D, D = setI C (mb + 23) s 10 := ⟨_, rfl⟩
  have wD : SW (PCl mb) A D := wC.tr (by rw [hD]; exact SW_I _ _ (by unfold PCl; omega))
  have mD := mA.sw wD
  obtain ⟨E, hE⟩ : ∃ E, E = setI D (mb + 24) s 0 := ⟨_, rfl⟩
  have wE' : SW (PCl mb) A E := wD.tr (by rw [hE]; exact SW_I _ _ (by unfold PCl; omega))
  have mE := mA.sw wE'
  obtain ⟨G, hG⟩ : ∃ G, G = setI E (mb + 25) s 0 := ⟨_, rfl⟩
  have wG : SW (PCl mb) A G := wE'.tr (by rw [hG]; exact SW_I _ _ (by unfold PCl; omega))
  have mG := mA.sw wG
  obtain ⟨H, hH⟩ : ∃ H, H = setI G (mb + 26) s 0 := ⟨_, rfl⟩
  have wH : SW (PCl mb) A H := wG.tr (by rw [hH]; exact SW_I _ _ (by unfold PCl; omega))
  have v : ∀ o j, 21 ≤ o → o ≤ 26 → mi H (mb + o) j = if j = s then clv o else mi A (mb + o) j := fun o j h1 h2 => by
    have : o = 21 ∨ o = 22 ∨ o = 23 ∨ o = 24 ∨ o = 25 ∨ o = 26 := by omega
    rw [hH, mi_setI_i, hG, mi_setI_i, hE, mi_setI_i, hD, mi_setI_i, hC, mi_setI_i, hB, mi_setI_i]
    by_cases e : j = s
    · rw [if_pos e]
      rcases this with rfl | rfl | rfl | rfl | rfl | rfl
      · rw [if_neg (by omega), if_neg (by omega), if_neg (by omega), if_neg (by omega), if_neg (by omega), if_pos ⟨rfl, e⟩]; rfl
      · rw [if_neg (by omega), if_neg (by omega), if_neg (by omega), if_neg (by omega), if_pos ⟨rfl, e⟩]; rfl
      · rw [if_neg (by omega), if_neg (by omega), if_neg (by omega), if_pos ⟨rfl, e⟩]; rfl
      · rw [if_neg (by omega), if_neg (by omega), if_pos ⟨rfl, e⟩]; rfl
      · rw [if_neg (by omega), if_pos ⟨rfl, e⟩]; rfl
      · rw [if_pos ⟨rfl, e⟩]; rfl
    · rw [if_neg (fun z => e z.2), if_neg (fun z => e z.2), if_neg (fun z => e z.2), if_neg (fun z => e z.2), if_neg (fun z => e z.2), if_neg (fun z => e z.2), if_neg e]
  have v20 : ∀ j, mi H (mb + 20) j = mi A (mb + 20) j := fun j => by
    rw [hH, mi_setI_i, if_neg (by omega), hG, mi_setI_i, if_neg (by omega), hE, mi_setI_i, if_neg (by omega), hD, mi_setI_i, if_neg (by omega), hC, mi_setI_i, if_neg (by omega), hB, mi_setI_i, if_neg (by omega)]
  refine ⟨H, ?_, (a2.mono (fun z hz => by unfold PCl; omega)).tr wH, by rw [hH, hG, hE, hD, hC, hB]; exact a3, fun j => ?_, fun o h1 h2 j => ?_⟩
  · unfold f_X12_clears
    refine cl_go a1 ?_
    simp only [mR_counting mA, mS_counting mA hs, nrw15, Option.bind_some, ← hB, mR_letter mB, mS_letter mB hs, ← hC, mR_fee mC, mS_fee mC hs, ← hD, mR_interestBy mD, mS_interestBy mD hs, ← hE, mR_interestFor mE, mS_interestFor mE hs, ← hG, mR_proofs mG, mS_proofs mG hs, ← hH]
  · rw [v20]
    by_cases c : 4 * s ≤ j ∧ j < 4 * s + 4
    · rw [if_pos c]
      have := a4 (j - 4 * s) (by omega) (by omega)
      rw [show 4 * s + (j - 4 * s) = j by omega] at this
      exact this
    · rw [if_neg c]
      exact a5 j (fun q q1 q2 => by omega)
  · rw [v o j h1 h2, (a2.2.2.2 (mb + o) (by omega)).1]
end Clr
section Ini
variable {mb : Nat}
theorem M_i489 : ∀ (n t fu : Nat) (T : St), t + n = 4 → n < fu → MOK T mb → ∃ T', f_X12_init_489 fu T mb (nI t) = some (mb, T') ∧ SW (PCl mb) T T' ∧ ml T' = ml T ∧ (∀ j, mi T' (mb + 20) j = if 4 * t ≤ j ∧ j < 16 then 5 else mi T (mb + 20) j) ∧ ∀ o, 21 ≤ o → o ≤ 26 → ∀ j, mi T' (mb + o) j = if t ≤ j ∧ j < 4 then clv o else mi T (mb + o) j := by
  intro n
  induction n with
  | zero =>
    intro t fu T e1 e2 m
    obtain ⟨fu, rfl⟩ : ∃ k, fu = k + 1 := ⟨fu - 1, by omega⟩
    unfold f_X12_init_489
    rw [if_pos (by rw [le_i, nI_toInt (by omega)]; simp only [Int32.reduceToInt]; omega)]
    exact ⟨T, rfl, SW.rf _ _, rfl, fun j => by rw [if_neg (by omega)], fun o _ _ j => by rw [if_neg (by omega)]⟩
  | succ n ih =>
    intro t fu T e1 e2 m
    obtain ⟨fu, rfl⟩ : ∃ k, fu = k + 1 := ⟨fu - 1, by omega⟩
    obtain ⟨A, a1, a2, a3, a4, a5⟩ := M_clears (s := t) m (by omega)
    obtain ⟨B, b1, b2, b3, b4, b5⟩ := ih (t + 1) fu A (by omega) (by omega) (m.sw a2)
    unfold f_X12_init_489
    rw [if_neg (by rw [le_i, nI_toInt (by omega)]; simp only [Int32.reduceToInt]; omega)]
    simp only [mV m, a1, Option.bind_some, nI_1]
    refine ⟨B, b1, a2.tr b2, by rw [b3, a3], fun j => ?_, fun o h1 h2 j => ?_⟩
    · rw [b4, a4]
      by_cases c : 4 * (t + 1) ≤ j ∧ j < 16
      · rw [if_pos c, if_pos (by omega)]
      · rw [if_neg c]
        by_cases d : 4 * t ≤ j ∧ j < 4 * t + 4
        · rw [if_pos d, if_pos (by omega)]
        · rw [if_neg d, if_neg (by omega)]
    · rw [b5 o h1 h2, a5 o h1 h2]
      by_cases c : t + 1 ≤ j ∧ j < 4
      · rw [if_pos c, if_pos (by omega)]
      · rw [if_neg c]
        by_cases d : j = t
        · rw [if_pos d, if_pos (by omega)]
        · rw [if_neg d, if_neg (by omega)]
theorem M_i507 : ∀ (n t fu : Nat) (T : St), t + n = 20 → n < fu → MOK T mb → ∃ T', f_X12_init_507 fu T mb (nI t) = some (mb, T') ∧ SW (fun z => z = mb + 57) T T' ∧ ml T' = ml T ∧ ∀ j, mi T' (mb + 57) j = if t ≤ j ∧ j < 20 then 1 else mi T (mb + 57) j := by
  intro n
  induction n with
  | zero =>
    intro t fu T e1 e2 m
    obtain ⟨fu, rfl⟩ : ∃ k, fu = k + 1 := ⟨fu - 1, by omega⟩
    unfold f_X12_init_507
    rw [if_pos (by rw [le_i, nI_toInt (by omega)]; simp only [Int32.reduceToInt]; omega)]
    exact ⟨T, rfl, SW.rf _ _, rfl, fun j => by rw [if_neg (by omega)]⟩
  | succ n ih =>
    intro t fu T e1 e2 m
    obtain ⟨fu, rfl⟩ : ∃ k, fu = k + 1 := ⟨fu - 1, by omega⟩
    unfold f_X12_init_507
    rw [if_neg (by rw [le_i, nI_toInt (by omega)]; simp only [Int32.reduceToInt]; omega)]
    simp only [mR_cost m, mS_cost m (show t < 20 by omega), nrw15, Option.bind_some, nI_1]
    obtain ⟨A, hA⟩ : ∃ A, A = setI T (mb + 57) t 1 := ⟨_, rfl⟩
    rw [← hA]
    have wA : SW (fun z => z = mb + 57) T A := by rw [hA]; exact SW_I _ _ rfl
    obtain ⟨B, b1, b2, b3, b4⟩ := ih (t + 1) fu A (by omega) (by omega) (m.sw wA)
    refine ⟨B, b1, wA.tr b2, by rw [b3, hA]; rfl, fun j => ?_⟩
    rw [b4]
    by_cases c : t + 1 ≤ j ∧ j < 20
    · rw [if_pos c, if_pos (by omega)]
    · rw [if_neg c, hA, mi_setI_i]
      by_cases d : j = t
      · rw [if_pos ⟨rfl, d⟩, if_pos (by omega)]
      · rw [if_neg (fun z => d z.2), if_neg (by omega)]
theorem M_i528 : ∀ (n t fu : Nat) (T : St), t + n = 160 → n < fu → MOK T mb → ∃ T', f_X12_init_528 fu T mb (nI t) = some T' ∧ SW (fun z => z = mb + 56) T T' ∧ ml T' = ml T ∧ ∀ j, mi T' (mb + 56) j = if t ≤ j ∧ j < 160 then -1 else mi T (mb + 56) j := by
  intro n
  induction n with
  | zero =>
    intro t fu T e1 e2 m
    obtain ⟨fu, rfl⟩ : ∃ k, fu = k + 1 := ⟨fu - 1, by omega⟩
    unfold f_X12_init_528
    rw [if_pos (by rw [le_i, nI_toInt (by omega)]; simp only [Int32.reduceToInt]; omega)]
    exact ⟨T, rfl, SW.rf _ _, rfl, fun j => by rw [if_neg (by omega)]⟩
  | succ n ih =>
    intro t fu T e1 e2 m
    obtain ⟨fu, rfl⟩ : ∃ k, fu = k + 1 := ⟨fu - 1, by omega⟩
    unfold f_X12_init_528
    rw [if_neg (by rw [le_i, nI_toInt (by omega)]; simp only [Int32.reduceToInt]; omega)]
    simp only [mR_figures m, mS_figures m (show t < 160 by omega), nrw15, Option.bind_some, nI_1]
    obtain ⟨A, hA⟩ : ∃ A, A = setI T (mb + 56) t (-1) := ⟨_, rfl⟩
    rw [← hA]
    have wA : SW (fun z => z = mb + 56) T A := by rw [hA]; exact SW_I _ _ rfl
    obtain ⟨B, b1, b2, b3, b4⟩ := ih (t + 1) fu A (by omega) (by omega) (m.sw wA)
    refine ⟨B, b1, wA.tr b2, by rw [b3, hA]; rfl, fun j => ?_⟩
    rw [b4]
    by_cases c : t + 1 ≤ j ∧ j < 160
    · rw [if_pos c, if_pos (by omega)]
    · rw [if_neg c, hA, mi_setI_i]
      by_cases d : j = t
      · rw [if_pos ⟨rfl, d⟩, if_pos (by omega)]
      · rw [if_neg (fun z => d z.2), if_neg (by omega)]
end Ini
theorem X_i173 {S : St} {xb s : Nat} {K Ln : Nat → Nat} {R : Nat → Nat → Nat} (k0 : K 0 = 12) (r14 : R 0 14 = 17 + 2) (k17 : K 17 = 15) (l17 : Ln 17 = 20) : ∀ (n t fu : Nat) (T : St) (I : Nat → Nat → Int32), t + n = 20 → n < fu → REP S T xb 22 s K Ln I R → ∃ T' I', f_X11_init_173 fu T xb (nI t) = some T' ∧ REP S T' xb 22 s K Ln I' R ∧ (∀ j, I' 17 j = if t ≤ j ∧ j < 20 then 1 else I 17 j) ∧ ∀ o, o ≠ 17 → I' o = I o := by
  intro n
  induction n with
  | zero =>
    intro t fu T I e1 e2 r
    obtain ⟨fu, rfl⟩ : ∃ k, fu = k + 1 := ⟨fu - 1, by omega⟩
    have g : getR T (some xb) 12 14 = some (some (xb + 17)) := rep_getR r 0 14 (by omega) k0 r14
    have k := rep_kd r 17 (by omega) k17
    have l : ln T (xb + 17) = 20 := by rw [(r.2.1 17 (by omega)).2, l17]
    unfold f_X11_init_173
    simp only [g, Option.bind_some, alen_s (show 14 ≤ kd T (xb + 17) ∧ kd T (xb + 17) ≤ 20 by omega) l]
    rw [if_pos (nI_le (by omega) (by omega))]
    exact ⟨T, I, rfl, r, fun j => by rw [if_neg (by omega)], fun o _ => rfl⟩
  | succ n ih =>
    intro t fu T I e1 e2 r
    obtain ⟨fu, rfl⟩ : ∃ k, fu = k + 1 := ⟨fu - 1, by omega⟩
    have g : getR T (some xb) 12 14 = some (some (xb + 17)) := rep_getR r 0 14 (by omega) k0 r14
    have k := rep_kd r 17 (by omega) k17
    have l : ln T (xb + 17) = 20 := by rw [(r.2.1 17 (by omega)).2, l17]
    obtain ⟨A, a1, a2⟩ := rep_stI r 17 t 20 1 rfl (by omega) k17 l17 (by omega) (by decide)
    obtain ⟨B, I', b1, b2, b3, b4⟩ := ih (t + 1) fu A _ (by omega) (by omega) a2
    unfold f_X11_init_173
    simp only [g, Option.bind_some, alen_s (show 14 ≤ kd T (xb + 17) ∧ kd T (xb + 17) ≤ 20 by omega) l]
    rw [if_neg (nI_ge (by omega) (by omega)), a1]
    simp only [Option.bind_some, nI_1]
    refine ⟨B, I', b1, b2, fun j => ?_, fun o ho => by rw [b4 o ho, up2_ne _ ho]⟩
    rw [b3]
    by_cases c : t + 1 ≤ j ∧ j < 20
    · rw [if_pos c, if_pos (by omega)]
    · rw [if_neg c]
      by_cases d : j = t
      · rw [d, up2_eq, if_pos (by omega)]
      · rw [up2_nk _ d, if_neg (by omega)]
