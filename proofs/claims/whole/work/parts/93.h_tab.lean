def PT (xb z : Nat) : Prop := z = xb + 22 + 58 ∨ z = xb + 22 + 59
def EK (G p : Nat → Nat) (k q : Nat) (l : List Nat) (n c : Nat) (a b : Int32) : Prop := if n ≤ k ∧ c ≤ q then EN G p l n c a b else a = -1
def TBl (T : St) (xb : Nat) (G p : Nat → Nat) (k q : Nat) (lst : Nat → Nat → List Nat) : Prop := ∀ n c, n ≤ 20 → c < 1000 → EK G p k q (lst n c) n c (mi T (xb + 22 + 58) (1000 * n + c)) (mi T (xb + 22 + 59) (1000 * n + c))
theorem M_l44 {xb : Nat} {x1 x2 x3 x4 : Int32} : ∀ (m t fu : Nat) (T : St), t + m = 21000 → m < fu → MOK T (xb + 22) → ∃ T', f_X12_looks_44 fu T (xb + 22) x1 x2 x3 x4 (nI t) = some (xb + 22, x1, x2, x3, x4, T') ∧ SW (PT xb) T T' ∧ (∀ j, t ≤ j → j < 21000 → mi T' (xb + 22 + 58) j = -1) ∧ ∀ j, j < t → mi T' (xb + 22 + 58) j = mi T (xb + 22 + 58) j := by
  intro m
  induction m with
  | zero =>
    intro t fu T e1 e2 mT
    obtain ⟨fu, rfl⟩ : ∃ k, fu = k + 1 := ⟨fu - 1, by omega⟩
    unfold f_X12_looks_44
    rw [if_pos (by rw [le_i, nI_toInt (by omega)]; simp only [Int32.reduceToInt]; omega)]
    exact ⟨T, rfl, SW.rf _ _, fun j h1 h2 => by omega, fun j _ => rfl⟩
  | succ m ih =>
    intro t fu T e1 e2 mT
    obtain ⟨fu, rfl⟩ : ∃ k, fu = k + 1 := ⟨fu - 1, by omega⟩
    unfold f_X12_looks_44
    rw [if_neg (by rw [le_i, nI_toInt (by omega)]; simp only [Int32.reduceToInt]; omega)]
    simp only [mR_most mT, mS_most mT (show t < 21000 by omega), nrw15, Option.bind_some, nI_1]
    obtain ⟨A, hA⟩ : ∃ A, A = setI T (xb + 22 + 58) t (-1) := ⟨_, rfl⟩
    rw [← hA]
    have wA : SW (PT xb) T A := by rw [hA]; exact SW_I _ _ (Or.inl rfl)
    obtain ⟨T', g1, g2, g3, g4⟩ := ih (t + 1) fu A (by omega) (by omega) (mT.sw wA)
    refine ⟨T', g1, wA.tr g2, fun j h1 h2 => ?_, fun j h1 => ?_⟩
    · by_cases e : j = t
      · rw [g4 j (by omega), hA, mi_setI_i, if_pos ⟨rfl, e⟩]
      · exact g3 j (by omega) h2
    · rw [g4 j (by omega), hA, mi_setI_i, if_neg (by omega)]
section Tab
variable {xb k q y : Nat} {G p : Nat → Nat} {l : List Nat} {x1 x2 x4 : Int32}
theorem M_l139 {n : Nat} (hk : k ≤ 20) (hq : q ≤ 999) (hG : ∀ y, G y ≤ 999999) (hp : p y ≤ 99) (hy : y < 20) (hl : l.Sublist (List.range y)) (hn : 0 < n) (hnk : n ≤ k) : ∀ (m c fu : Nat) (T : St), c + 1 ≤ p y + m → m < fu → c ≤ q → MOK T (xb + 22) → mi T (xb + 22 + 57) y = nI (p y) → TBl T xb G p k q (fun n' c' => if n < n' ∨ n' = n ∧ c < c' then l ++ [y] else l) → 1 ≤ p y → ∃ T', f_X12_looks_139 fu T (xb + 22) x1 x2 (nI q) x4 (nI y) (nI (G y)) (nI n) (nI c) = some (xb + 22, x1, x2, nI q, x4, nI y, nI (G y), nI n, T') ∧ SW (PT xb) T T' ∧ TBl T' xb G p k q (fun n' c' => if n ≤ n' then l ++ [y] else l) := by
  intro m
  induction m with
  | zero =>
    intro c fu T e1 e2 hc mT h57 hT hp1
    obtain ⟨fu, rfl⟩ : ∃ k, fu = k + 1 := ⟨fu - 1, by omega⟩
    unfold f_X12_looks_139
    simp only [mR_cost mT, mL_cost mT hy, h57, Option.bind_some]
    rw [if_pos (by rw [lt_i, nI_toInt (by omega), nI_toInt (by omega)]; omega)]
    refine ⟨T, rfl, SW.rf _ _, fun n' c' h1 h2 => ?_⟩
    have h := hT n' c' h1 h2
    simp only at h ⊢
    by_cases z : n < n' ∨ n' = n ∧ c < c'
    · rw [if_pos z] at h
      rw [if_pos (by omega)]
      exact h
    · rw [if_neg z] at h
      by_cases z2 : n ≤ n'
      · rw [if_pos z2]
        unfold EK at h ⊢
        by_cases z3 : n' ≤ k ∧ c' ≤ q
        · rw [if_pos z3] at h ⊢
          exact EN_old h (Or.inl (by omega))
        · rw [if_neg z3] at h ⊢
          exact h
      · rw [if_neg z2]; exact h
  | succ m ih =>
    intro c fu T e1 e2 hc mT h57 hT hp1
    by_cases cp : c < p y
    · exact ih c fu T (by omega) (by omega) hc mT h57 hT hp1
    obtain ⟨fu, rfl⟩ : ∃ k, fu = k + 1 := ⟨fu - 1, by omega⟩
    have h1 := hT n c (by omega) (by omega)
    have h0 := hT (n - 1) (c - p y) (by omega) (by omega)
    simp only at h1 h0
    rw [if_neg (by omega)] at h1 h0
    unfold EK at h1 h0
    rw [if_pos (by omega)] at h1 h0
    obtain ⟨a, ha⟩ : ∃ a, a = mi T (xb + 22 + 58) (1000 * n + c) := ⟨_, rfl⟩
    obtain ⟨b, hb⟩ : ∃ b, b = mi T (xb + 22 + 59) (1000 * n + c) := ⟨_, rfl⟩
    obtain ⟨a', ha'⟩ : ∃ a', a' = mi T (xb + 22 + 58) (1000 * (n - 1) + (c - p y)) := ⟨_, rfl⟩
    obtain ⟨b', hb'⟩ : ∃ b', b' = mi T (xb + 22 + 59) (1000 * (n - 1) + (c - p y)) := ⟨_, rfl⟩
    rw [← ha, ← hb] at h1
    rw [← ha', ← hb'] at h0
    have ix1 : (1000 : Int32) * nI n + nI c = nI (1000 * n + c) := by rw [show (1000 : Int32) = nI 1000 from rfl, pk_mul, nI_add]
    have ix0 : (1000 : Int32) * (nI n - 1) + nI c - nI (p y) = nI (1000 * (n - 1) + (c - p y)) := by
      obtain ⟨z, rfl⟩ : ∃ z, n = z + 1 := ⟨n - 1, by omega⟩
      rw [nI_pred, show (1000 : Int32) = nI 1000 from rfl, pk_mul, nI_add]
      refine (eq_i _ _).mpr ?_
      rw [sub_i (by rw [nI_toInt (by omega), nI_toInt (by omega)]; omega) (by rw [nI_toInt (by omega), nI_toInt (by omega)]; omega), nI_toInt (by omega), nI_toInt (by omega), nI_toInt (by omega)]
      omega
    have i1 : 1000 * n + c < 21000 := by omega
    have i0 : 1000 * (n - 1) + (c - p y) < 21000 := by omega
    have cm : nI c + (-1) = nI (c - 1) := by
      obtain ⟨z, rfl⟩ : ∃ z, c = z + 1 := ⟨c - 1, by omega⟩
      rw [pk_m1]; rfl
    -- the place stays as it is
    have skip : skp a b a' b' (nI (G y)) (nI (2 ^ y)) → ∃ T', f_X12_looks_139 fu T (xb + 22) x1 x2 (nI q) x4 (nI y) (nI (G y)) (nI n) (nI (c - 1)) = some (xb + 22, x1, x2, nI q, x4, nI y, nI (G y), nI n, T') ∧ SW (PT xb) T T' ∧ TBl T' xb G p k q (fun n' c' => if n ≤ n' then l ++ [y] else l) := by
      intro hs
      refine ih (c - 1) fu T (by omega) (by omega) (by omega) mT h57 (fun n' c' q1 q2 => ?_) hp1
      have h := hT n' c' q1 q2
      simp only at h ⊢
      by_cases z : n' = n ∧ c' = c
      · rw [if_pos (by omega), z.1, z.2]
        unfold EK
        rw [if_pos (by omega), ← ha, ← hb]
        exact EN_skip hG hy hl h1 h0 hn (by omega) hs
      · by_cases z2 : n < n' ∨ n' = n ∧ c < c'
        · rw [if_pos z2] at h
          rw [if_pos (by omega)]; exact h
        · rw [if_neg z2] at h
          rw [if_neg (by omega)]; exact h
    have take : ¬ skp a b a' b' (nI (G y)) (nI (2 ^ y)) → ∃ T', f_X12_looks_259 (f_X12_looks_139 fu) T (xb + 22) x1 x2 (nI q) x4 (nI y) (nI (G y)) (nI n) (nI c) (nI (1000 * (n - 1) + (c - p y))) (nI (1000 * n + c)) = some (xb + 22, x1, x2, nI q, x4, nI y, nI (G y), nI n, T') ∧ SW (PT xb) T T' ∧ TBl T' xb G p k q (fun n' c' => if n ≤ n' then l ++ [y] else l) := by
      intro hs
      unfold f_X12_looks_259
      simp only [mR_most mT, mL_most mT i0, ← ha', mS_most mT i1, nrw15, Option.bind_some]
      obtain ⟨A, hA⟩ : ∃ A, A = setI T (xb + 22 + 58) (1000 * n + c) (a' + nI (G y)) := ⟨_, rfl⟩
      rw [← hA]
      have wA : SW (PT xb) T A := by rw [hA]; exact SW_I _ _ (Or.inl rfl)
      have mA := mT.sw wA
      have aO : mi A (xb + 22 + 59) = mi T (xb + 22 + 59) := by
        funext z
        rw [hA, mi_setI_i, if_neg (by omega)]
      simp only [mR_mostSet mA, mL_mostSet mA i0, aO, ← hb', mS_mostSet mA i1, slI (show y < 25 by omega), nrw15, Option.bind_some, cm]
      obtain ⟨B, hB⟩ : ∃ B, B = setI A (xb + 22 + 59) (1000 * n + c) (b' ||| nI (2 ^ y)) := ⟨_, rfl⟩
      rw [← hB]
      have wB : SW (PT xb) T B := wA.tr (by rw [hB]; exact SW_I _ _ (Or.inr rfl))
      have b58 : ∀ z, mi B (xb + 22 + 58) z = if z = 1000 * n + c then a' + nI (G y) else mi T (xb + 22 + 58) z := fun z => by
        rw [hB, mi_setI_i, if_neg (by omega), hA, mi_setI_i]
        by_cases e : z = 1000 * n + c
        · rw [if_pos ⟨rfl, e⟩, if_pos e]
        · rw [if_neg (fun y => e y.2), if_neg e]
      have b59 : ∀ z, mi B (xb + 22 + 59) z = if z = 1000 * n + c then b' ||| nI (2 ^ y) else mi T (xb + 22 + 59) z := fun z => by
        rw [hB, mi_setI_i]
        by_cases e : z = 1000 * n + c
        · rw [if_pos ⟨rfl, e⟩, if_pos e]
        · rw [if_neg (fun y => e y.2), if_neg e, aO]
      obtain ⟨T', t1, t2, t3⟩ := ih (c - 1) fu B (by omega) (by omega) (by omega) (mT.sw wB) (by rw [(wB.2.2.2 (xb + 22 + 57) (by unfold PT; omega)).1]; exact h57) (fun n' c' q1 q2 => by
        have h := hT n' c' q1 q2
        simp only at h ⊢
        rw [b58, b59]
        by_cases z : n' = n ∧ c' = c
        · rw [if_pos (by omega), if_pos (by omega), if_pos (by omega), z.1, z.2]
          unfold EK
          rw [if_pos (by omega)]
          exact EN_take hG hy hl h1 h0 hn (by omega) hs
        · have ne : ¬ 1000 * n' + c' = 1000 * n + c := by omega
          rw [if_neg ne, if_neg ne]
          by_cases z2 : n < n' ∨ n' = n ∧ c < c'
          · rw [if_pos z2] at h
            rw [if_pos (by omega)]; exact h
          · rw [if_neg z2] at h
            rw [if_neg (by omega)]; exact h) hp1
      exact ⟨T', t1, wB.tr t2, t3⟩
    unfold f_X12_looks_139
    simp only [mR_cost mT, mL_cost mT hy, h57, Option.bind_some]
    rw [if_neg (by rw [lt_i, nI_toInt (by omega), nI_toInt (by omega)]; omega)]
    simp only [ix0, ix1, mR_most mT, mL_most mT i0, mL_most mT i1, mR_mostSet mT, mL_mostSet mT i0, mL_mostSet mT i1, ← ha, ← ha', ← hb, ← hb', Option.bind_some, slI (show y < 25 by omega), cm]
    by_cases d1 : a' = -1
    · rw [if_pos d1]
      exact skip (Or.inl d1)
    · rw [if_neg d1]
      by_cases d2 : a' + nI (G y) < a
      · rw [if_pos d2]
        exact skip (Or.inr (Or.inl d2))
      · rw [if_neg d2]
        by_cases d3 : a' + nI (G y) = a
        · rw [if_pos d3]
          by_cases d4 : (b' ||| nI (2 ^ y)) < b
          · rw [if_pos d4]
            refine take ?_
            rintro (z | z | z)
            · exact d1 z
            · exact d2 z
            · exact z.2 d4
          · rw [if_neg d4]
            exact skip (Or.inr (Or.inr ⟨d3, d4⟩))
        · rw [if_neg d3]
          refine take ?_
          rintro (z | z | z)
          · exact d1 z
          · exact d2 z
          · exact d3 z.1
theorem l131_go {F f : Nat} {T A : St} {x0 : Nat} {x1 x2 x3 x4 x5 x6 x7 : Int32} {o : Nat × Int32 × Int32 × Int32 × Int32 × Int32 × St} (h : f_X12_looks_139 F T x0 x1 x2 x3 x4 x5 x6 x7 x3 = some (x0, x1, x2, x3, x4, x5, x6, x7, A)) (h2 : f_X12_looks_131 f A x0 x1 x2 x3 x4 x5 x6 (x7 + (-1)) = some o) : ((f_X12_looks_139 F T x0 x1 x2 x3 x4 x5 x6 x7 x3).bind fun (x0, x1_139, x2_139, x3_139, x4_139, x5_139, x6_139, x7_139, S_139) => f_X12_looks_131 f S_139 x0 x1_139 x2_139 x3_139 x4_139 x5_139 x6_139 (x7_139 + (-1))) = some o := by
  rw [h]
  exact h2
theorem M_l131 (hk : k ≤ 20) (hq : q ≤ 999) (hG : ∀ y, G y ≤ 999999) (hp : p y ≤ 99) (hp1 : 1 ≤ p y) (hy : y < 20) (hl : l.Sublist (List.range y)) : ∀ (n fu : Nat) (T : St), n ≤ k → n < fu → MOK T (xb + 22) → mi T (xb + 22 + 57) y = nI (p y) → TBl T xb G p k q (fun n' _ => if n < n' then l ++ [y] else l) → ∃ T', f_X12_looks_131 fu T (xb + 22) x1 x2 (nI q) x4 (nI y) (nI (G y)) (nI n) = some (xb + 22, x1, x2, nI q, x4, nI y, T') ∧ SW (PT xb) T T' ∧ TBl T' xb G p k q (fun _ _ => l ++ [y]) := by
  intro n
  induction n with
  | zero =>
    intro fu T e1 e2 mT h57 hT
    obtain ⟨fu, rfl⟩ : ∃ k, fu = k + 1 := ⟨fu - 1, by omega⟩
    unfold f_X12_looks_131
    rw [if_pos (by rw [nI_0]; decide)]
    refine ⟨T, rfl, SW.rf _ _, fun n' c' q1 q2 => ?_⟩
    have h := hT n' c' q1 q2
    simp only at h ⊢
    by_cases z : 0 < n'
    · rw [if_pos z] at h; exact h
    · rw [if_neg z] at h
      unfold EK at h ⊢
      by_cases z3 : n' ≤ k ∧ c' ≤ q
      · rw [if_pos z3] at h ⊢
        exact EN_old h (Or.inr (by omega))
      · rw [if_neg z3] at h ⊢
        exact h
  | succ n ih =>
    intro fu T e1 e2 mT h57 hT
    obtain ⟨fu, rfl⟩ : ∃ k, fu = k + 1 := ⟨fu - 1, by omega⟩
    obtain ⟨A, a1, a2, a3⟩ := M_l139 (x1 := x1) (x2 := x2) (x4 := x4) (n := n + 1) (G := G) (p := p) (y := y) hk hq hG hp hy hl (by omega) e1 (q + 1) q FU T (by omega) (by unfold FU; omega) (Nat.le_refl _) mT h57 (fun n' c' q1 q2 => by
      have h := hT n' c' q1 q2
      simp only at h ⊢
      by_cases z : n + 1 < n'
      · rw [if_pos z] at h
        rw [if_pos (Or.inl z)]; exact h
      · rw [if_neg z] at h
        by_cases z2 : n + 1 < n' ∨ n' = n + 1 ∧ q < c'
        · rw [if_pos z2]
          unfold EK at h ⊢
          rw [if_neg (by omega)] at h ⊢
          exact h
        · rw [if_neg z2]; exact h) hp1
    obtain ⟨B, b1, b2, b3⟩ := ih fu A (by omega) (by omega) (mT.sw a2) (by rw [(a2.2.2.2 (xb + 22 + 57) (by unfold PT; omega)).1]; exact h57) (fun n' c' q1 q2 => by
      have h := a3 n' c' q1 q2
      simp only at h ⊢
      by_cases z : n < n'
      · rw [if_pos (by omega)] at h
        rw [if_pos z]; exact h
      · rw [if_neg (by omega)] at h
        rw [if_neg z]; exact h)
    refine ⟨B, ?_, a2.tr b2, b3⟩
    rw [f_X12_looks_131, if_neg (by rw [le_i, nI_toInt (by omega)]; simp only [Int32.reduceToInt]; omega)]
    exact l131_go a1 (by rw [pk_m1]; exact b1)
end Tab
