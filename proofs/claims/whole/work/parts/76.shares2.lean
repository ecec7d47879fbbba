theorem lN_one : lN 1 = 1 := by
  have h := lN_1 0
  rw [show lN 0 = 0 from rfl, Int64.zero_add] at h
  exact h.symm
section Down2
variable {xb np p : Nat} {M : MI} {H : Nat → Bool}
theorem M_sh114 (hn : np ≤ 24) {t : Nat} {a bl : Int64} {w : Int32} (ht : t < np) : ∀ (n k fu : Nat) (T : St), k + n = np → n < fu → t < k → MOK T (xb + 22) → mi T (xb + 22) 2 = nI np → (∀ c, c < np → mi T (xb + 22 + 8) c = M 8 c) → (∀ c, c < np → mi T (xb + 22 + 46) c = if H c then 1 else 0) → ml T (xb + 22 + 47) t = a → ml T (xb + 22 + 48) t = bl → ∃ T', f_X12_shares_114 fu T (xb + 22) (nI t) w (nI k) = some (xb + 22, nI t, T') ∧ SW (P3 xb) T T' ∧ (∀ c, c < np → mi T' (xb + 22 + 46) c = mi T (xb + 22 + 46) c) ∧ ∀ c, c < np → (ml T' (xb + 22 + 47) c = if k ≤ c ∧ M 8 c = nI t ∧ H c = true then a else ml T (xb + 22 + 47) c) ∧ (ml T' (xb + 22 + 48) c = if k ≤ c ∧ M 8 c = nI t ∧ H c = true then bl * w.toInt64 else ml T (xb + 22 + 48) c) := by
  intro n
  induction n with
  | zero =>
    intro k fu T h1 h3 hk m h2 h8 hh ha hb
    obtain ⟨fu, rfl⟩ : ∃ q, fu = q + 1 := ⟨fu - 1, by omega⟩
    unfold f_X12_shares_114
    simp only [mI m, h2, Option.bind_some]
    rw [if_pos (nI_le (by omega) (by omega))]
    exact ⟨T, rfl, SW.rf _ _, fun _ _ => rfl, fun c hc => ⟨by rw [if_neg (by omega)], by rw [if_neg (by omega)]⟩⟩
  | succ n ih =>
    intro k fu T h1 h3 hk m h2 h8 hh ha hb
    obtain ⟨fu, rfl⟩ : ∃ q, fu = q + 1 := ⟨fu - 1, by omega⟩
    have hkn : k < np := by omega
    have hk24 : k < 24 := by omega
    have ht24 : t < 24 := by omega
    unfold f_X12_shares_114
    simp only [mI m, h2, Option.bind_some]
    rw [if_neg (nI_ge (by omega) (by omega))]
    simp only [mR_parent m, mL_parent m hk24, h8 k hkn, mR_hasLine m, mL_hasLine m hk24, hh k hkn, mR_above m, mL_above m ht24, ha, mS_above m hk24, Option.bind_some, nI_1]
    have keep : ¬ (M 8 k = nI t ∧ H k = true) → ∃ T', f_X12_shares_114 fu T (xb + 22) (nI t) w (nI (k + 1)) = some (xb + 22, nI t, T') ∧ SW (P3 xb) T T' ∧ (∀ c, c < np → mi T' (xb + 22 + 46) c = mi T (xb + 22 + 46) c) ∧ ∀ c, c < np → (ml T' (xb + 22 + 47) c = if k ≤ c ∧ M 8 c = nI t ∧ H c = true then a else ml T (xb + 22 + 47) c) ∧ (ml T' (xb + 22 + 48) c = if k ≤ c ∧ M 8 c = nI t ∧ H c = true then bl * w.toInt64 else ml T (xb + 22 + 48) c) := fun hno => by
      obtain ⟨T', g1, g2, g3, g4⟩ := ih (k + 1) fu T (by omega) (by omega) (by omega) m h2 h8 hh ha hb
      refine ⟨T', g1, g2, g3, fun c hc => ?_⟩
      have e : (k + 1 ≤ c ∧ M 8 c = nI t ∧ H c = true) ↔ (k ≤ c ∧ M 8 c = nI t ∧ H c = true) := by
        refine ⟨fun q => ⟨by omega, q.2⟩, fun q => ⟨?_, q.2⟩⟩
        rcases Nat.lt_or_ge k c with z | z
        · exact z
        · exact absurd ((show c = k by omega) ▸ q.2) hno
      exact ⟨by rw [(g4 c hc).1]; exact ifc e, by rw [(g4 c hc).2]; exact ifc e⟩
    by_cases c1 : M 8 k = nI t
    · rw [if_pos c1]
      by_cases c2 : H k = true
      · rw [if_pos c2, if_neg (by decide)]
        obtain ⟨A, hA⟩ : ∃ A, A = setL T (xb + 22 + 47) k a := ⟨_, rfl⟩
        rw [← hA]
        have wA : SW (P3 xb) T A := by rw [hA]; exact SW_L _ _ (Or.inr (Or.inl rfl))
        have mA := m.sw wA
        have lA : ml A (xb + 22 + 48) t = bl := by rw [hA, ml_setL_i, if_neg (by omega), hb]
        simp only [mR_below mA, mL_below mA ht24, lA, mS_below mA hk24, Option.bind_some]
        obtain ⟨B, hB⟩ : ∃ B, B = setL A (xb + 22 + 48) k (bl * w.toInt64) := ⟨_, rfl⟩
        rw [← hB]
        have wB : SW (P3 xb) A B := by rw [hB]; exact SW_L _ _ (Or.inr (Or.inr rfl))
        have iB : mi B = mi T := by rw [hB, mi_setL_, hA, mi_setL_]
        have b47 : ∀ c, ml B (xb + 22 + 47) c = if c = k then a else ml T (xb + 22 + 47) c := fun c => by
          rw [hB, ml_setL_i, if_neg (by omega), hA, ml_setL_i]
          exact ifc ⟨fun z => z.2, fun z => ⟨rfl, z⟩⟩
        have b48 : ∀ c, ml B (xb + 22 + 48) c = if c = k then bl * w.toInt64 else ml T (xb + 22 + 48) c := fun c => by
          rw [hB, ml_setL_i, hA, ml_setL_i]
          by_cases e : c = k
          · rw [if_pos ⟨rfl, e⟩, if_pos e]
          · rw [if_neg (fun z => e z.2), if_neg (by omega), if_neg e]
        obtain ⟨T', g1, g2, g3, g4⟩ := ih (k + 1) fu B (by omega) (by omega) (by omega) (mA.sw wB) (by rw [iB]; exact h2) (by rw [iB]; exact h8) (by rw [iB]; exact hh) (by rw [b47, if_neg (by omega), ha]) (by rw [b48, if_neg (by omega), hb])
        refine ⟨T', g1, (wA.tr wB).tr g2, fun c hc => by rw [g3 c hc, iB], fun c hc => ?_⟩
        obtain ⟨q1, q2⟩ := g4 c hc
        rw [b47] at q1
        rw [b48] at q2
        rw [q1, q2]
        by_cases e : c = k
        · subst e
          have hno : ¬ (c + 1 ≤ c ∧ M 8 c = nI t ∧ H c = true) := fun z => by omega
          rw [if_neg hno, if_neg hno, if_pos rfl, if_pos rfl, if_pos ⟨Nat.le_refl _, c1, c2⟩, if_pos ⟨Nat.le_refl _, c1, c2⟩]
          exact ⟨rfl, rfl⟩
        · have ee : (k + 1 ≤ c ∧ M 8 c = nI t ∧ H c = true) ↔ (k ≤ c ∧ M 8 c = nI t ∧ H c = true) := ⟨fun q => ⟨by omega, q.2⟩, fun q => ⟨by omega, q.2⟩⟩
          rw [if_neg e, if_neg e]
          exact ⟨ifc ee, ifc ee⟩
      · rw [if_neg c2, if_pos rfl]
        exact keep (fun q => c2 q.2)
    · rw [if_neg c1]
      exact keep (fun q => c1 q.1)
theorem pt_lo (hp : PAR M np) (hn : np ≤ 24) : ∀ c, c < np → c < p → pt M H np p c = 0 := by
  intro c
  induction c using Nat.strongRecOn with
  | _ c ih =>
    intro hc hlt
    rcases hp c hc with z | ⟨j, j1, j2⟩
    · exact pt_n hp hc (by omega) z
    · rw [pt_s hp hn hc (by omega) j1 j2, ih j j1 (by omega) (by omega), Nat.zero_mul]
      split <;> rfl
/-- c is told of by those ahead of t -/
abbrev vis (M : MI) (H : Nat → Bool) (np p t c : Nat) : Prop := 0 < pt M H np p c ∧ (c < t ∧ M 9 c = -1 ∨ t ≤ c ∧ (c = p ∨ ∃ j, j < t ∧ M 8 c = nI j))
theorem M_sh71 (hp : PAR M np) (hn : np ≤ 24) (hH : HL M np H) (hpn : p < np) : ∀ (n t fu : Nat) (T : St), t + n = np → n < fu → p ≤ t → MOK T (xb + 22) → mi T (xb + 22) 2 = nI np → (∀ c, c < np → mi T (xb + 22 + 8) c = M 8 c ∧ mi T (xb + 22 + 9) c = M 9 c) → (∀ c, c < np → mi T (xb + 22 + 46) c = if H c then 1 else 0) → (∀ c, c < np → ml T (xb + 22 + 47) c = (if vis M H np p t c then 1 else 0) ∧ ml T (xb + 22 + 48) c = (if vis M H np p t c then lN (pt M H np p c) else 1)) → ∃ T', f_X12_shares_71 fu T (xb + 22) (nI t) = some T' ∧ SW (P3 xb) T T' ∧ ∀ c, c < np → ml T' (xb + 22 + 47) c = (if 0 < prt M H np p c then 1 else 0) ∧ ml T' (xb + 22 + 48) c = (if 0 < prt M H np p c then lN (prt M H np p c) else 1) := by
  intro n
  induction n with
  | zero =>
    intro t fu T h1 h3 hpt m h2 hr hh hv
    obtain ⟨fu, rfl⟩ : ∃ q, fu = q + 1 := ⟨fu - 1, by omega⟩
    unfold f_X12_shares_71
    simp only [mI m, h2, Option.bind_some]
    rw [if_pos (nI_le (by omega) (by omega))]
    refine ⟨T, rfl, SW.rf _ _, fun c hc => ?_⟩
    obtain ⟨q1, q2⟩ := hv c hc
    rw [q1, q2]
    unfold prt
    by_cases e : M 9 c = -1
    · rw [if_pos e]
      have ee : vis M H np p t c ↔ 0 < pt M H np p c := ⟨fun z => z.1, fun z => ⟨z, Or.inl ⟨by omega, e⟩⟩⟩
      exact ⟨ifc ee, ifc ee⟩
    · rw [if_neg e]
      have ee : ¬ vis M H np p t c := fun z => by
        rcases z.2 with z | z
        · exact e z.2
        · omega
      rw [if_neg ee, if_neg ee, if_neg (by omega), if_neg (by omega)]
      exact ⟨rfl, rfl⟩
  | succ n ih =>
    intro t fu T h1 h3 hpt m h2 hr hh hv
    obtain ⟨fu, rfl⟩ : ∃ q, fu = q + 1 := ⟨fu - 1, by omega⟩
    have ht : t < np := by omega
    have ht24 : t < 24 := by omega
    obtain ⟨a1, a2⟩ := hv t ht
    have vtt : vis M H np p t t ↔ 0 < pt M H np p t := by
      refine ⟨fun z => z.1, fun z => ⟨z, Or.inr ⟨Nat.le_refl _, ?_⟩⟩⟩
      by_cases e : t = p
      · exact Or.inl e
      · rcases hp t ht with q | ⟨j, j1, j2⟩
        · rw [pt_n hp ht e q] at z; omega
        · exact Or.inr ⟨j, j1, j2⟩
    have lgc : ∀ v : Int64, (lg_cmp v 0 = 0) = (v = 0) := fun v => cmp_eq v 0
    unfold f_X12_shares_71
    simp only [mI m, h2, Option.bind_some]
    rw [if_neg (nI_ge (by omega) (by omega))]
    simp only [mR_above m, mL_above m ht24, a1, mR_died m, mL_died m ht24, (hr t ht).2, mV m, M_linesOf m hp h2 hn (fun c hc => (hr c hc).1) ht (fun c hc _ => hh c hc), Option.bind_some, lgc, nI_1]
    -- nothing is told by t
    have keep : (∀ c, c < np → t < c → M 8 c = nI t → pt M H np p c = 0) → (0 < pt M H np p t → M 9 t = -1) → ∃ T', f_X12_shares_71 fu T (xb + 22) (nI (t + 1)) = some T' ∧ SW (P3 xb) T T' ∧ ∀ c, c < np → ml T' (xb + 22 + 47) c = (if 0 < prt M H np p c then 1 else 0) ∧ ml T' (xb + 22 + 48) c = (if 0 < prt M H np p c then lN (prt M H np p c) else 1) := fun hk1 hk2 => by
      refine ih (t + 1) fu T (by omega) (by omega) (by omega) m h2 hr hh (fun c hc => ?_)
      have ee : vis M H np p t c ↔ vis M H np p (t + 1) c := by
        constructor
        · rintro ⟨z1, z2 | z2⟩
          · exact ⟨z1, Or.inl ⟨by omega, z2.2⟩⟩
          · by_cases e : c = t
            · subst e
              exact ⟨z1, Or.inl ⟨by omega, hk2 z1⟩⟩
            · refine ⟨z1, Or.inr ⟨by omega, ?_⟩⟩
              rcases z2.2 with q | ⟨j, j1, j2⟩
              · exact Or.inl q
              · exact Or.inr ⟨j, by omega, j2⟩
        · rintro ⟨z1, z2 | z2⟩
          · by_cases e : c = t
            · subst e
              exact vtt.mpr z1
            · exact ⟨z1, Or.inl ⟨by omega, z2.2⟩⟩
          · refine ⟨z1, Or.inr ⟨by omega, ?_⟩⟩
            rcases z2.2 with q | ⟨j, j1, j2⟩
            · exact Or.inl q
            · by_cases e : j = t
              · subst e
                have := hk1 c hc (by omega) j2
                omega
              · exact Or.inr ⟨j, by omega, j2⟩
      exact ⟨by rw [(hv c hc).1]; exact ifc ee, by rw [(hv c hc).2]; exact ifc ee⟩
    by_cases c1 : 0 < pt M H np p t
    · rw [if_pos (vtt.mpr c1), if_neg (by decide)]
      by_cases c2 : M 9 t = -1
      · rw [if_pos c2]
        refine keep (fun c hc htc h8 => ?_) (fun _ => c2)
        rw [pt_s hp hn hc (by omega) htc h8, if_neg (fun z => z.1 c2)]
      · rw [if_neg c2]
        rw [if_pos (vtt.mpr c1)] at a1 a2
        obtain ⟨A, g1, g2, g3, g4⟩ := M_sh114 (M := M) (H := H) (xb := xb) hn (w := nI (lcn M np H t)) ht (np - (t + 1)) (t + 1) FU T (by omega) (by unfold FU; omega) (by omega) m h2 (fun c hc => (hr c hc).1) hh a1 a2
        rw [g1]
        have mA := m.sw g2
        simp only [Option.bind_some, mR_above mA, mS_above mA ht24]
        obtain ⟨B, hB⟩ : ∃ B, B = setL A (xb + 22 + 47) t 0 := ⟨_, rfl⟩
        rw [← hB]
        have wB : SW (P3 xb) A B := by rw [hB]; exact SW_L _ _ (Or.inr (Or.inl rfl))
        have mB := mA.sw wB
        simp only [Option.bind_some, mR_below mB, mS_below mB ht24]
        obtain ⟨C, hC⟩ : ∃ C, C = setL B (xb + 22 + 48) t 1 := ⟨_, rfl⟩
        rw [← hC]
        have wC : SW (P3 xb) B C := by rw [hC]; exact SW_L _ _ (Or.inr (Or.inr rfl))
        have wT := (g2.tr wB).tr wC
        have oth : ∀ z, ¬ P3 xb z → mi C z = mi T z := fun z hz => (wT.2.2.2 z hz).1
        have l24 : lcn M np H t ≤ np := cntB_le _ _
        have c47 : ∀ c, ml C (xb + 22 + 47) c = if c = t then 0 else ml A (xb + 22 + 47) c := fun c => by
          rw [hC, ml_setL_i, if_neg (by omega), hB, ml_setL_i]
          exact ifc ⟨fun z => z.2, fun z => ⟨rfl, z⟩⟩
        have c48 : ∀ c, ml C (xb + 22 + 48) c = if c = t then 1 else ml A (xb + 22 + 48) c := fun c => by
          rw [hC, ml_setL_i, hB, ml_setL_i]
          by_cases e : c = t
          · rw [if_pos ⟨rfl, e⟩, if_pos e]
          · rw [if_neg (fun z => e z.2), if_neg (by omega), if_neg e]
        obtain ⟨T', y1, y2, y3⟩ := ih (t + 1) fu C (by omega) (by omega) (by omega) (m.sw wT) (by rw [oth _ (by unfold P3; omega)]; exact h2) (fun c hc => by
          rw [oth _ (by unfold P3; omega), oth _ (by unfold P3; omega)]
          exact hr c hc) (fun c hc => by
          rw [hC, mi_setL_, hB, mi_setL_, g3 c hc]
          exact hh c hc) (fun c hc => by
          obtain ⟨q1, q2⟩ := g4 c hc
          rw [c47, c48, q1, q2]
          by_cases e : c = t
          · subst e
            have nv : ¬ vis M H np p (c + 1) c := fun z => by
              rcases z.2 with z | z
              · exact c2 z.2
              · omega
            rw [if_pos rfl, if_pos rfl, if_neg nv, if_neg nv]
            exact ⟨rfl, rfl⟩
          · rw [if_neg e, if_neg e]
            by_cases ch : t + 1 ≤ c ∧ M 8 c = nI t ∧ H c = true
            · have e1 : pt M H np p c = pt M H np p t * lcn M np H t := by
                rw [pt_s hp hn hc (by omega) (by omega) ch.2.1, if_pos ⟨c2, ch.2.2⟩]
              have lpos : 0 < lcn M np H t := by
                unfold lcn
                rw [cntB_pos]
                exact ⟨c, hc, by rw [Bool.and_eq_true, decide_eq_true_eq]; exact ch.2⟩
              have vv : vis M H np p (t + 1) c := ⟨by rw [e1]; exact Nat.mul_pos c1 lpos, Or.inr ⟨ch.1, Or.inr ⟨t, by omega, ch.2.1⟩⟩⟩
              rw [if_pos ch, if_pos ch, if_pos vv, if_pos vv, e1]
              refine ⟨rfl, ?_⟩
              rw [nI_l (by omega), lN_mul]
            · have ee : vis M H np p t c ↔ vis M H np p (t + 1) c := by
                constructor
                · rintro ⟨z1, z2 | z2⟩
                  · exact ⟨z1, Or.inl ⟨by omega, z2.2⟩⟩
                  · refine ⟨z1, Or.inr ⟨by omega, ?_⟩⟩
                    rcases z2.2 with q | ⟨j, j1, j2⟩
                    · exact Or.inl q
                    · exact Or.inr ⟨j, by omega, j2⟩
                · rintro ⟨z1, z2 | z2⟩
                  · exact ⟨z1, Or.inl ⟨by omega, z2.2⟩⟩
                  · refine ⟨z1, Or.inr ⟨by omega, ?_⟩⟩
                    rcases z2.2 with q | ⟨j, j1, j2⟩
                    · exact Or.inl q
                    · by_cases ej : j = t
                      · subst ej
                        have hnH : ¬ H c = true := fun z => ch ⟨z2.1, j2, z⟩
                        rw [pt_s hp hn hc (by omega) (by omega) j2, if_neg (fun z => hnH z.2)] at z1
                        omega
                      · exact Or.inr ⟨j, by omega, j2⟩
              rw [if_neg ch, if_neg ch, (hv c hc).1, (hv c hc).2]
              exact ⟨ifc ee, ifc ee⟩)
        exact ⟨T', by rw [nI_1]; exact y1, wT.tr y2, y3⟩
    · rw [if_neg (fun z => c1 (vtt.mp z)), if_pos rfl]
      refine keep (fun c hc htc h8 => ?_) (fun z => absurd z c1)
      rw [pt_s hp hn hc (by omega) htc h8, show pt M H np p t = 0 by omega, Nat.zero_mul]
      split <;> rfl
theorem vis_0 (hp : PAR M np) (hn : np ≤ 24) {c : Nat} (hc : c < np) : (if c = p then (1 : Int64) else 0) = (if vis M H np p p c then 1 else 0) ∧ (1 : Int64) = (if vis M H np p p c then lN (pt M H np p c) else 1) := by
  by_cases e : c = p
  · subst e
    have vv : vis M H np c c c := ⟨by rw [pt_p c rfl]; omega, Or.inr ⟨Nat.le_refl _, Or.inl rfl⟩⟩
    rw [if_pos rfl, if_pos vv, if_pos vv, pt_p c rfl]
    exact ⟨rfl, lN_one.symm⟩
  · have nv : ¬ vis M H np p p c := by
      rintro ⟨z1, z2 | z2⟩
      · rw [pt_lo hp hn c hc z2.1] at z1; omega
      · rcases z2.2 with q | ⟨j, j1, j2⟩
        · exact e q
        · rw [pt_s hp hn hc e (by omega) j2, pt_lo hp hn j (by omega) j1, Nat.zero_mul] at z1
          revert z1
          split <;> omega
    rw [if_neg e, if_neg nv, if_neg nv]
    exact ⟨rfl, rfl⟩
theorem sh_go {F x0 : Nat} {T A B : St} {x1 v : Int32} (h : getI T (some x0) 13 2 = some v) (a1 : f_X12_shares_7 F T x0 x1 (v - 1) = some (x0, x1, A)) (b1 : f_X12_shares_71 F A x0 x1 = some B) : ((getI T (some x0) 13 2).bind fun v1 => (f_X12_shares_7 F T x0 x1 (v1 - 1)).bind fun (x0, x1_7, S_7) => f_X12_shares_71 F S_7 x0 x1_7) = some B := by
  rw [h]
  simp only [Option.bind_some]
  rw [a1]
  exact b1
/-- the reference's shares -/
theorem M_shares {T : St} (hp : PAR M np) (hn : np ≤ 24) (hH : HL M np H) (hpn : p < np) (m : MOK T (xb + 22)) (h2 : mi T (xb + 22) 2 = nI np) (hr : ∀ c, c < np → mi T (xb + 22 + 8) c = M 8 c ∧ mi T (xb + 22 + 9) c = M 9 c) : ∃ T', f_X12_shares T (xb + 22) (nI p) = some T' ∧ SW (P3 xb) T T' ∧ ∀ c, c < np → ml T' (xb + 22 + 47) c = (if 0 < prt M H np p c then 1 else 0) ∧ ml T' (xb + 22 + 48) c = (if 0 < prt M H np p c then lN (prt M H np p c) else 1) := by
  obtain ⟨A, a1, a2, a3⟩ := M_sh7 (H := H) (p := p) (xb := xb) hp hn hH np FU T (Nat.le_refl _) (by unfold FU; omega) m h2 hr (fun c hc hc2 => by omega) hpn
  have oth : ∀ z, ¬ P3 xb z → mi A z = mi T z := fun z hz => (a2.2.2.2 z hz).1
  obtain ⟨B, b1, b2, b3⟩ := M_sh71 (xb := xb) hp hn hH hpn (np - p) p FU A (by omega) (by unfold FU; omega) (Nat.le_refl _) (m.sw a2) (by rw [oth _ (by unfold P3; omega)]; exact h2) (fun c hc => by
    rw [oth _ (by unfold P3; omega), oth _ (by unfold P3; omega)]
    exact hr c hc) (fun c hc => (a3 c hc).1) (fun c hc => by
    rw [(a3 c hc).2.1, (a3 c hc).2.2]
    exact vis_0 hp hn hc)
  refine ⟨B, ?_, a2.tr b2, b3⟩
  unfold f_X12_shares
  exact sh_go ((mI m 2).trans (by rw [h2])) a1 b1
end Down2
