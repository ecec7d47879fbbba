theorem X_rep28 {xb nf np na ne nc f : Nat} {M : MI} {L : ML} {fa pa aa ea ca : Nat → Nat} {il : Nat → List Nat} {now : Int32} (hnow : M 0 0 = now) (hf : f < nf) : ∀ (n t fu : Nat) (T : St), t + n = na → n < fu → JX T xb (repM M ne f now t) (repL M L ne f now il t) ((nf, fa), (np, pa), (na, aa), (ne, ea, il), (nc, ca)) → ∃ T', f_X11_report_28 fu T xb (some (fa f)) (nI (cntB (hqB M ne f now) t)) (nI t) = some (nI (cntB (hqB M ne f now) na), T') ∧ SW (fun z => ∃ i, i < na ∧ z = aa i) T T' ∧ JX T' xb (repM M ne f now na) (repL M L ne f now il na) ((nf, fa), (np, pa), (na, aa), (ne, ea, il), (nc, ca)) := by
  intro n
  induction n with
  | zero =>
    intro t fu T h1 h2 j
    obtain ⟨fu, rfl⟩ : ∃ k, fu = k + 1 := ⟨fu - 1, by omega⟩
    obtain ⟨b, c0, ct, cy, cf, cp, cn, ca', ce, cc, cl⟩ := j.un
    have x := b.2.2.1
    have e : t = na := by omega
    rw [e] at j ⊢
    unfold f_X11_report_28
    simp only [xR_accounts x, xV_accounts x, L_size ca'.2.2.1, Option.bind_some]
    rw [if_pos (nI_le (Nat.le_refl _) (by have := ca'.2.1; omega))]
    exact ⟨T, rfl, SW.rf _ _, j⟩
  | succ n ih =>
    intro t fu T h1 h2 j
    obtain ⟨fu, rfl⟩ : ∃ k, fu = k + 1 := ⟨fu - 1, by omega⟩
    obtain ⟨b, c0, ct, cy, cf, cp, cn, ca', ce, cc, cl⟩ := j.un
    have x := b.2.2.1
    have n40 := ca'.2.1
    have ht : t < na := by omega
    have ot := ca'.2.2.2 t ht
    have hk := ot.1
    have e00 : repM M ne f now t 0 0 = now := by rw [repM_row (by omega), hnow]
    have hn : mi T xb 0 = now := c0.1.trans e00
    have e7 : mi T (aa t) 7 = M 39 t := by rw [ot.2.2.2.2.2.2.2.2.2.2.2.1, repM_ge (Nat.le_refl _)]
    obtain ⟨y, y1, y2, y3⟩ := ot.2.2.2.1
    have y2' : M 10 t = nI y := by rw [← y2, repM_row (by omega)]
    have hfo := fo_lt cf now 8 y y1
    have efo : fo (repM M ne f now t) now 8 y = fo M now 8 y := fo_rows (repM_row (by omega)) (repM_row (by omega)) now 8 y
    have esd : sdv (repM M ne f now t) ne t now = sdv M ne t now := sdv_rows (repM_row (by omega)) (repM_row (by omega)) (repM_row (by omega)) (repM_row (by omega)) (repM_row (by omega)) (repM_row (by omega)) (repM_row (by omega)) (repM_row (by omega)) (repM_row (by omega)) (repM_row (by omega)) (repM_row (by omega)) (repM_row (by omega)) (repM_row (by omega)) (repM_row (by omega)) ne t now
    unfold f_X11_report_28
    simp only [xR_accounts x, xV_accounts x, L_size ca'.2.2.1, Option.bind_some]
    rw [if_neg (nI_ge (by omega) (by omega))]
    simp only [L_get ca'.2.2.1 ht, castO_s hk, rcv_s hk, X_isHeld hk, i10, e7, getR_s hk, y3, xI x, hn, X_holder cf now y1, xV x, X_sleepDay x cl cf cp ca' ce ht, esd, efo, Option.bind_some, nI_1]
    have hq : hqB M ne f now t = (decide (M 39 t = -1) && (decide (fo M now 8 y = f) && decide ((sdv M ne t now).toInt ≤ now.toInt))) := by
      unfold hqB
      rw [y2', nI_clamp (by have := cf.2.1; omega)]
    have keep : hqB M ne f now t ≠ true → ∃ T', f_X11_report_28 fu T xb (some (fa f)) (nI (cntB (hqB M ne f now) t)) (nI (t + 1)) = some (nI (cntB (hqB M ne f now) na), T') ∧ SW (fun z => ∃ i, i < na ∧ z = aa i) T T' ∧ JX T' xb (repM M ne f now na) (repL M L ne f now il na) ((nf, fa), (np, pa), (na, aa), (ne, ea, il), (nc, ca)) := fun hne => by
      have hc : cntB (hqB M ne f now) (t + 1) = cntB (hqB M ne f now) t := by
        show _ + (if hqB M ne f now t then 1 else 0) = _
        rw [if_neg hne]; rfl
      rw [← hc]
      exact ih (t + 1) fu T (by omega) (by omega) (by rw [repM_n hne, repL_n hne]; exact j)
    by_cases c1 : M 39 t = -1
    · rw [if_pos c1]
      by_cases c2 : fo M now 8 y = f
      · rw [if_pos (by rw [c2])]
        by_cases c3 : now.toInt < (sdv M ne t now).toInt
        · rw [if_pos (by rw [lt_i]; exact c3)]
          refine keep ?_
          rw [hq]
          have : ¬ (sdv M ne t now).toInt ≤ now.toInt := by omega
          simp [this]
        · rw [if_neg (by rw [lt_i]; exact c3)]
          have hqt : hqB M ne f now t = true := by
            rw [hq]
            have : (sdv M ne t now).toInt ≤ now.toInt := by omega
            simp [c1, c2, this]
          obtain ⟨U, u1, u2, u3, u4, u5, u6, u7⟩ := X_hold j ht hn
          rw [u1]
          simp only [Option.bind_some]
          have eow : owd (repM M ne f now t) t now = owd M t now := owd_rows (repM_row (by omega)) (repM_row (by omega)) (repM_row (by omega)) (repM_row (by omega)) (repM_row (by omega)) (repM_row (by omega)) t now
          have eas : asum0 (repM M ne f now t) now now (il t) = asum0 M now now (il t) := asum0_rows (repM_row (by omega)) (repM_row (by omega)) (repM_row (by omega)) (repM_row (by omega)) (repM_row (by omega)) now now (il t)
          rw [eow] at u3
          rw [esd] at u5
          rw [eas] at u6
          have hc : cntB (hqB M ne f now) (t + 1) = cntB (hqB M ne f now) t + 1 := by
            show _ + (if hqB M ne f now t then 1 else 0) = _
            rw [if_pos hqt]
          rw [← hc]
          obtain ⟨s, s4, es⟩ := owd_in cf cp (ca'.ar ht) now
          rw [eow] at es
          have jU := rep_step j ht e00 (by rw [repM_ge (Nat.le_refl _)]; exact c1) s4 es u2 u3 u4 u5 u6 u7
          rw [← repM_y hqt, ← repL_y hqt] at jU
          obtain ⟨V, v1, v2, v3⟩ := ih (t + 1) fu U (by omega) (by omega) jU
          exact ⟨V, v1, (u2.mono (fun z e => ⟨t, ht, e⟩)).tr v2, v3⟩
      · rw [if_neg (fun q => c2 (cf.inj (by rw [← efo]; exact hfo) hf (Option.some.inj q)))]
        refine keep ?_
        rw [hq]
        simp [c2]
    · rw [if_neg c1]
      refine keep ?_
      rw [hq]
      simp [c1]
