theorem M_rep26 {S1 : St} {xb nf np na ne f : Nat} {M : MI} {L : ML} {fa pa aa ea : Nat → Nat} {il : Nat → List Nat} {now : Int32} (b : BS S1 xb) (hnow : M 0 0 = now) (ha3 : M 0 3 = nI na) (h04 : M 0 4 = nI ne) (hna : na ≤ 40) (hne : ne ≤ 600) (cf : CF S1 xb M nf fa) (cp : CP S1 xb M np pa) (ce : CE S1 xb M na aa ne ea il) (ar : ∀ i, i < na → AR M nf np i) (hf : f < nf) : ∀ (n t fu : Nat) (T : St), t + n = na → n < fu → SW (Pm xb) S1 T → Mi T (xb + 22) = repM M ne f now t → Ml T (xb + 22) = repL M L ne f now il t → ∃ T', f_X12_report_26 fu T (xb + 22) (nI f) (nI (cntB (hqB M ne f now) t)) (nI t) = some (nI (cntB (hqB M ne f now) na), T') ∧ SW (Pm xb) S1 T' ∧ Mi T' (xb + 22) = repM M ne f now na ∧ Ml T' (xb + 22) = repL M L ne f now il na := by
  intro n
  induction n with
  | zero =>
    intro t fu T h1 h2 sw hM hL
    obtain ⟨fu, rfl⟩ : ∃ k, fu = k + 1 := ⟨fu - 1, by omega⟩
    have m := b.2.2.2.1.sw sw
    have e : t = na := by omega
    rw [e] at hM hL ⊢
    have e3 : mi T (xb + 22) 3 = nI na := by
      have := congrFun (congrFun hM 0) 3
      rw [repM_row (by omega), ha3] at this
      exact this
    unfold f_X12_report_26
    simp only [mI m, e3, Option.bind_some]
    rw [if_pos (nI_le (Nat.le_refl _) (by omega))]
    exact ⟨T, rfl, sw, hM, hL⟩
  | succ n ih =>
    intro t fu T h1 h2 sw hM hL
    obtain ⟨fu, rfl⟩ : ∃ k, fu = k + 1 := ⟨fu - 1, by omega⟩
    have m := b.2.2.2.1.sw sw
    have ht : t < na := by omega
    have ht40 : t < 40 := by omega
    have row : ∀ o, (o ≠ 39 ∧ o ≠ 40 ∧ o ≠ 41) → Mi T (xb + 22) o = M o := fun o ho => by rw [hM, repM_row ho]
    have e3 : mi T (xb + 22) 3 = nI na := (congrFun (row 0 (by omega)) 3).trans ha3
    have e4 : mi T (xb + 22) 4 = nI ne := (congrFun (row 0 (by omega)) 4).trans h04
    have e0 : mi T (xb + 22) 0 = now := (congrFun (row 0 (by omega)) 0).trans hnow
    have F0 := Fr.rf (fun _ => False) S1
    have cfT : CF S1 xb (Mi T (xb + 22)) nf fa := cf.go b.1 F0 (fun _ c => c.elim) (congrFun (row 0 (by omega)) 1) (row 1 (by omega)) (row 2 (by omega)) (row 3 (by omega)) (row 56 (by omega))
    have cpT : CP S1 xb (Mi T (xb + 22)) np pa := cp.go b.1 F0 (fun _ c => c.elim) (congrFun (row 0 (by omega)) 2) (row 4 (by omega)) (row 5 (by omega)) (row 6 (by omega)) (row 7 (by omega)) (row 8 (by omega)) (row 9 (by omega))
    have ceT : CE S1 xb (Mi T (xb + 22)) na aa ne ea il := ce.go b.1 F0 rfl (fun _ _ => Or.inl (fun c => c)) (fun _ c => c.elim) (congrFun (row 0 (by omega)) 4) (row 14 (by omega)) (row 15 (by omega)) (row 16 (by omega)) (row 17 (by omega)) (row 18 (by omega)) (row 19 (by omega))
    have arT : AR (Mi T (xb + 22)) nf np t := by
      unfold AR
      rw [row 10 (by omega), row 11 (by omega), row 12 (by omega)]
      exact ar t ht
    obtain ⟨-, ⟨y, y1, y2⟩, -⟩ := ar t ht
    have e10 : mi T (xb + 22 + 10) t = nI y := (congrFun (row 10 (by omega)) t).trans y2
    have e39 : mi T (xb + 22 + 39) t = M 39 t := by
      have := congrFun (congrFun hM 39) t
      rw [repM_ge (Nat.le_refl _)] at this
      exact this
    have n8 := cf.2.1
    have hfo := fo_lt cfT now 8 y y1
    have efo : fo (Mi T (xb + 22)) now 8 y = fo M now 8 y := fo_rows (row 2 (by omega)) (row 3 (by omega)) now 8 y
    have esd : sdv (Mi T (xb + 22)) ne t now = sdv M ne t now := sdv_rows (row 1 (by omega)) (row 2 (by omega)) (row 3 (by omega)) (row 6 (by omega)) (row 10 (by omega)) (row 11 (by omega)) (row 12 (by omega)) (row 13 (by omega)) (row 14 (by omega)) (row 15 (by omega)) (row 16 (by omega)) (row 19 (by omega)) (row 20 (by omega)) (row 21 (by omega)) ne t now
    have eow : owd (Mi T (xb + 22)) t now = owd M t now := owd_rows (row 1 (by omega)) (row 2 (by omega)) (row 3 (by omega)) (row 6 (by omega)) (row 10 (by omega)) (row 12 (by omega)) t now
    have eas : asum0 (Mi T (xb + 22)) now now (il t) = asum0 M now now (il t) := asum0_rows (row 15 (by omega)) (row 16 (by omega)) (row 17 (by omega)) (row 18 (by omega)) (row 19 (by omega)) now now (il t)
    unfold f_X12_report_26
    simp only [mI m, e3, Option.bind_some]
    rw [if_neg (nI_ge (by omega) (by omega))]
    simp only [mR_heldBy m, mL_heldBy m ht40, e39, mR_accountFirm m, mL_accountFirm m ht40, e10, e0, mV m, M_firmOf m cfT now y1, efo, M_sleepOf m cfT cpT arT e4 hne, esd, M_owed m cfT cpT arT, eow, mS_heldBy m ht40, nrw15, Option.bind_some, nI_1, le_i]
    have hq : hqB M ne f now t = (decide (M 39 t = -1) && (decide (fo M now 8 y = f) && decide ((sdv M ne t now).toInt ≤ now.toInt))) := by
      unfold hqB
      rw [y2, nI_clamp (by omega)]
    have keep : hqB M ne f now t ≠ true → ∃ T', f_X12_report_26 fu T (xb + 22) (nI f) (nI (cntB (hqB M ne f now) t)) (nI (t + 1)) = some (nI (cntB (hqB M ne f now) na), T') ∧ SW (Pm xb) S1 T' ∧ Mi T' (xb + 22) = repM M ne f now na ∧ Ml T' (xb + 22) = repL M L ne f now il na := fun hn => by
      have hc : cntB (hqB M ne f now) (t + 1) = cntB (hqB M ne f now) t := by
        show _ + (if hqB M ne f now t then 1 else 0) = _
        rw [if_neg hn]; rfl
      rw [← hc]
      exact ih (t + 1) fu T (by omega) (by omega) sw (by rw [repM_n hn]; exact hM) (by rw [repL_n hn]; exact hL)
    by_cases c1 : M 39 t = -1
    · rw [if_pos c1]
      by_cases c2 : fo M now 8 y = f
      · rw [if_pos (by rw [c2])]
        by_cases c3 : (sdv M ne t now).toInt ≤ now.toInt
        · rw [if_pos c3]
          have hqt : hqB M ne f now t = true := by
            rw [hq]
            simp [c1, c2, c3]
          obtain ⟨A, hA⟩ : ∃ A, A = setI T (xb + 22 + 39) t (owd M t now) := ⟨_, rfl⟩
          rw [← hA]
          have mA : MOK A (xb + 22) := by rw [hA]; exact m.si _ _ _
          have iA : Mi A (xb + 22) = up2 (Mi T (xb + 22)) 39 t (owd M t now) := by rw [hA, Mi_setI]
          have lA : Ml A (xb + 22) = Ml T (xb + 22) := by rw [hA, Ml_setI]
          have wA : SW (Pm xb) T A := by rw [hA]; exact SW_I _ _ ⟨by omega, by omega⟩
          have zA : ∀ z, mi A (xb + 22) z = mi T (xb + 22) z := fun z => by rw [hA, mi_setI_i, if_neg (by omega)]
          clear hA
          simp only [mR_heldOn mA, mI mA, zA, e0, mS_heldOn mA ht40, nrw15, Option.bind_some]
          obtain ⟨B, hB⟩ : ∃ B, B = setI A (xb + 22 + 40) t now := ⟨_, rfl⟩
          rw [← hB]
          have mB : MOK B (xb + 22) := by rw [hB]; exact mA.si _ _ _
          have iB : Mi B (xb + 22) = up2 (up2 (Mi T (xb + 22)) 39 t (owd M t now)) 40 t now := by rw [hB, Mi_setI, iA]
          have lB : Ml B (xb + 22) = Ml T (xb + 22) := by rw [hB, Ml_setI, lA]
          have wB : SW (Pm xb) T B := by rw [hB]; exact wA.tr (SW_I _ _ ⟨by omega, by omega⟩)
          have zB : ∀ z, mi B (xb + 22) z = mi T (xb + 22) z := fun z => by rw [hB, mi_setI_i, if_neg (by omega), zA]
          clear hB
          have rowB : ∀ o, (o ≠ 39 ∧ o ≠ 40) → Mi B (xb + 22) o = Mi T (xb + 22) o := fun o ho => by rw [iB, up2_ne _ ho.2, up2_ne _ ho.1]
          have cfB : CF S1 xb (Mi B (xb + 22)) nf fa := cfT.go b.1 F0 (fun _ c => c.elim) (congrFun (rowB 0 (by omega)) 1) (rowB 1 (by omega)) (rowB 2 (by omega)) (rowB 3 (by omega)) (rowB 56 (by omega))
          have cpB : CP S1 xb (Mi B (xb + 22)) np pa := cpT.go b.1 F0 (fun _ c => c.elim) (congrFun (rowB 0 (by omega)) 2) (rowB 4 (by omega)) (rowB 5 (by omega)) (rowB 6 (by omega)) (rowB 7 (by omega)) (rowB 8 (by omega)) (rowB 9 (by omega))
          have arB : AR (Mi B (xb + 22)) nf np t := by
            unfold AR
            rw [rowB 10 (by omega), rowB 11 (by omega), rowB 12 (by omega)]
            exact arT
          have esB : sdv (Mi B (xb + 22)) ne t now = sdv M ne t now := (sdv_rows (rowB 1 (by omega)) (rowB 2 (by omega)) (rowB 3 (by omega)) (rowB 6 (by omega)) (rowB 10 (by omega)) (rowB 11 (by omega)) (rowB 12 (by omega)) (rowB 13 (by omega)) (rowB 14 (by omega)) (rowB 15 (by omega)) (rowB 16 (by omega)) (rowB 19 (by omega)) (rowB 20 (by omega)) (rowB 21 (by omega)) ne t now).trans esd
          simp only [mR_late mB, mI mB, zB, e0, mV mB, M_sleepOf mB cfB cpB arB ((zB 4).trans e4) hne, esB, mS_late mB ht40, nrw15, Option.bind_some]
          obtain ⟨C, hC⟩ : ∃ C, C = setI B (xb + 22 + 41) t (now - sdv M ne t now) := ⟨_, rfl⟩
          rw [← hC]
          have mC : MOK C (xb + 22) := by rw [hC]; exact mB.si _ _ _
          have iC : Mi C (xb + 22) = up2 (up2 (up2 (Mi T (xb + 22)) 39 t (owd M t now)) 40 t now) 41 t (now - sdv M ne t now) := by rw [hC, Mi_setI, iB]
          have lC : Ml C (xb + 22) = Ml T (xb + 22) := by rw [hC, Ml_setI, lB]
          have wC : SW (Pm xb) T C := by rw [hC]; exact wB.tr (SW_I _ _ ⟨by omega, by omega⟩)
          have zC : ∀ z, mi C (xb + 22) z = mi T (xb + 22) z := fun z => by rw [hC, mi_setI_i, if_neg (by omega), zB]
          clear hC
          have rowC : ∀ o, (o ≠ 39 ∧ o ≠ 40 ∧ o ≠ 41) → Mi C (xb + 22) o = Mi T (xb + 22) o := fun o ho => by rw [iC, up2_ne _ ho.2.2, up2_ne _ ho.2.1, up2_ne _ ho.1]
          have ceC : CE S1 xb (Mi C (xb + 22)) na aa ne ea il := ceT.go b.1 F0 rfl (fun _ _ => Or.inl (fun c => c)) (fun _ c => c.elim) (congrFun (rowC 0 (by omega)) 4) (rowC 14 (by omega)) (rowC 15 (by omega)) (rowC 16 (by omega)) (rowC 17 (by omega)) (rowC 18 (by omega)) (rowC 19 (by omega))
          have eaC : asum0 (Mi C (xb + 22)) now now (il t) = asum0 M now now (il t) := (asum0_rows (rowC 15 (by omega)) (rowC 16 (by omega)) (rowC 17 (by omega)) (rowC 18 (by omega)) (rowC 19 (by omega)) now now (il t)).trans eas
          simp only [mR_held mC, mI mC, zC, e0, mV mC, M_sumNow mC ceC ht, eaC, mS_held mC ht40, Option.bind_some]
          have hc : cntB (hqB M ne f now) (t + 1) = cntB (hqB M ne f now) t + 1 := by
            show _ + (if hqB M ne f now t then 1 else 0) = _
            rw [if_pos hqt]
          rw [← hc]
          refine ih (t + 1) fu _ (by omega) (by omega) ((sw.tr wC).tr (SW_L _ _ ⟨by omega, by omega⟩)) ?_ ?_
          · rw [Mi_setL, iC, hM, repM_y hqt]
          · rw [Ml_setL, lC, hL, repL_y hqt]
        · rw [if_neg c3]
          refine keep ?_
          rw [hq]
          simp [c3]
      · rw [if_neg (fun q => c2 ((nI_eq (by omega) (by omega)).mp q))]
        refine keep ?_
        rw [hq]
        simp [c2]
    · rw [if_neg c1]
      refine keep ?_
      rw [hq]
      simp [c1]
theorem op_report {S : St} {xb k : Nat} (h : JJ S xb (k + 1)) (f : Int32) : ∃ r S1, f_X11_report S xb f = some (r, S1) ∧ ∃ S2, f_X12_report S1 (xb + 22) f = some (r, S2) ∧ JJ S2 xb k := by
  obtain ⟨⟨g', j⟩, rm1, rm2⟩ := id h
  obtain ⟨nf, fa, np, pa, na, aa, ne, ea, il, nc, ca, rfl, b, c0, ct, cy, cf, cp, cn, ca', ce, cc, cl⟩ := j.op
  have x := b.2.2.1
  have m := b.2.2.2.1
  have s1 : mi S (xb + 22) 1 = nI nf := cf.1
  have s2 := cf.2.1
  have e0 : mi S xb 0 = mi S (xb + 22) 0 := c0.1
  rcases ixc f (n := nf) (by omega) with ⟨i, hi, rfl⟩ | c1
  · have hk := (cf.2.2.2.1 i hi).1
    by_cases c2 : mgd (Mi S (xb + 22)) (mi S xb 0) i
    · refine ⟨-1, S, ?_, S, ?_, h.le⟩
      · unfold f_X11_report
        simp only [xV x, X_firmAt x cf.2.2.1 hk hi, Option.bind_some, if_neg (show ¬ (some (fa i) = none) by simp), xI x, rcv_s hk, X_isMergedBy cf hi, i01]
        rw [if_neg (fun q => q c2)]
      · unfold f_X12_report
        simp only [mV m, M_isFirm m s1 (by omega) hi, Option.bind_some, mI m, M_isMerged m _ (show i < 8 by omega), i01]
        rw [if_neg (by decide), ← e0, if_neg (fun q => q c2)]
    · have n0 : Mi S (xb + 22) 0 0 = mi S xb 0 := e0.symm
      obtain ⟨T, t1, t2, t3⟩ := X_rep28 (xb := xb) (nf := nf) (np := np) (na := na) (ne := ne) (nc := nc) (fa := fa) (pa := pa) (aa := aa) (ea := ea) (ca := ca) (il := il) (L := Ml S (xb + 22)) (now := mi S xb 0) n0 hi na 0 FU S (by omega) (by unfold FU; have := ca'.2.1; omega) (by rw [repM_0, repL_0]; exact j)
      rw [nI_0, show cntB (hqB (Mi S (xb + 22)) ne i (mi S xb 0)) 0 = 0 from rfl, nI_0] at t1
      refine ⟨nI (cntB (hqB (Mi S (xb + 22)) ne i (mi S xb 0)) na), T, ?_, ?_⟩
      · unfold f_X11_report
        simp only [xV x, X_firmAt x cf.2.2.1 hk hi, Option.bind_some, if_neg (show ¬ (some (fa i) = none) by simp), xI x, rcv_s hk, X_isMergedBy cf hi, i01]
        rw [if_pos c2]
        exact t1
      · have FT : Fr (fun z => ∃ q, q < na ∧ z = aa q) S T := t2.fr (fun z hz => by obtain ⟨q, q1, q2⟩ := hz; rw [q2, (ca'.2.2.2 q q1).1]; omega)
        have eT := fun o ho => Fr_m_of b FT (fun z hz => by obtain ⟨q, q1, q2⟩ := hz; rw [q2]; have := (ca'.2.2.2 q q1).2.1; omega) o ho
        obtain ⟨bT, c0T, ctT, cyT, cfT, cpT, cnT, caT, ceT, ccT, clT⟩ := t3.un
        have F0 := Fr.rf (fun _ => False) T
        have row : ∀ o, o < 60 → (o ≠ 39 ∧ o ≠ 40 ∧ o ≠ 41) → Mi T (xb + 22) o = repM (Mi S (xb + 22)) ne i (mi S xb 0) na o := fun o ho h9 => by rw [repM_row h9, (eT o ho).1]
        have cf1 : CF T xb (Mi T (xb + 22)) nf fa := cfT.go bT.1 F0 (fun _ c => c.elim) (congrFun (row 0 (by omega) (by omega)) 1) (row 1 (by omega) (by omega)) (row 2 (by omega) (by omega)) (row 3 (by omega) (by omega)) (row 56 (by omega) (by omega))
        have cp1 : CP T xb (Mi T (xb + 22)) np pa := cpT.go bT.1 F0 (fun _ c => c.elim) (congrFun (row 0 (by omega) (by omega)) 2) (row 4 (by omega) (by omega)) (row 5 (by omega) (by omega)) (row 6 (by omega) (by omega)) (row 7 (by omega) (by omega)) (row 8 (by omega) (by omega)) (row 9 (by omega) (by omega))
        have ce1 : CE T xb (Mi T (xb + 22)) na aa ne ea il := ceT.go bT.1 F0 rfl (fun _ _ => Or.inl (fun c => c)) (fun _ c => c.elim) (congrFun (row 0 (by omega) (by omega)) 4) (row 14 (by omega) (by omega)) (row 15 (by omega) (by omega)) (row 16 (by omega) (by omega)) (row 17 (by omega) (by omega)) (row 18 (by omega) (by omega)) (row 19 (by omega) (by omega))
        have f0 : ∀ z, mi T (xb + 22) z = mi S (xb + 22) z := fun z => congrFun (eT 0 (by omega)).1 z
        have ar1 : ∀ q, q < na → AR (Mi T (xb + 22)) nf np q := fun q hq => by
          unfold AR
          rw [(eT 10 (by omega)).1, (eT 11 (by omega)).1, (eT 12 (by omega)).1]
          exact ca'.ar hq
        have now1 : Mi T (xb + 22) 0 0 = mi S xb 0 := (f0 0).trans n0
        obtain ⟨V, v1, v2, v3, v4⟩ := M_rep26 (L := Ml T (xb + 22)) (f := i) (now := mi S xb 0) bT now1 ((f0 3).trans ca'.1) ((f0 4).trans ce.2.1) ca'.2.1 ce.2.2.1 cf1 cp1 ce1 ar1 hi na 0 FU T (by omega) (by unfold FU; have := ca'.2.1; omega) (SW.rf _ _) (by rw [repM_0]) (by rw [repL_0])
        have hcc : ∀ z, hqB (Mi T (xb + 22)) ne i (mi S xb 0) z = hqB (Mi S (xb + 22)) ne i (mi S xb 0) z := fun z => by
          unfold hqB
          rw [(eT 39 (by omega)).1, (eT 10 (by omega)).1, fo_rows (eT 2 (by omega)).1 (eT 3 (by omega)).1, sdv_rows (eT 1 (by omega)).1 (eT 2 (by omega)).1 (eT 3 (by omega)).1 (eT 6 (by omega)).1 (eT 10 (by omega)).1 (eT 11 (by omega)).1 (eT 12 (by omega)).1 (eT 13 (by omega)).1 (eT 14 (by omega)).1 (eT 15 (by omega)).1 (eT 16 (by omega)).1 (eT 19 (by omega)).1 (eT 20 (by omega)).1 (eT 21 (by omega)).1]
        have hcn : cntB (hqB (Mi T (xb + 22)) ne i (mi S xb 0)) na = cntB (hqB (Mi S (xb + 22)) ne i (mi S xb 0)) na := cntB_congr (fun z _ => hcc z)
        rw [nI_0, show cntB (hqB (Mi T (xb + 22)) ne i (mi S xb 0)) 0 = 0 from rfl, nI_0, hcn] at v1
        have mT := bT.2.2.2.1
        refine ⟨V, ?_, ?_⟩
        · unfold f_X12_report
          simp only [mV mT, M_isFirm mT ((f0 1).trans s1) (by omega) hi, Option.bind_some, mI mT, M_isMerged mT _ (show i < 8 by omega), i01]
          rw [if_neg (by decide), f0 0, ← e0, (eT 2 (by omega)).1, (eT 3 (by omega)).1, if_pos c2]
          exact v1
        · refine h.fin t3 t2.cap (by rw [t2.nx]; omega) (by rw [t2.sl]; omega) (v2.fm mT) v2.mr v2.nx v2.sl ?_ ?_
          · rw [v3]
            refine PeqI_of (fun o ho => ?_)
            funext z
            unfold repM
            rw [hcc, (eT o ho).1, owd_rows (eT 1 (by omega)).1 (eT 2 (by omega)).1 (eT 3 (by omega)).1 (eT 6 (by omega)).1 (eT 10 (by omega)).1 (eT 12 (by omega)).1, sdv_rows (eT 1 (by omega)).1 (eT 2 (by omega)).1 (eT 3 (by omega)).1 (eT 6 (by omega)).1 (eT 10 (by omega)).1 (eT 11 (by omega)).1 (eT 12 (by omega)).1 (eT 13 (by omega)).1 (eT 14 (by omega)).1 (eT 15 (by omega)).1 (eT 16 (by omega)).1 (eT 19 (by omega)).1 (eT 20 (by omega)).1 (eT 21 (by omega)).1]
          · rw [v4]
            refine PeqL_of (fun o ho => ?_)
            funext z
            unfold repL
            rw [hcc, (eT o ho).2, asum0_rows (eT 15 (by omega)).1 (eT 16 (by omega)).1 (eT 17 (by omega)).1 (eT 18 (by omega)).1 (eT 19 (by omega)).1]
  · refine ⟨-1, S, ?_, S, ?_, h.le⟩
    · unfold f_X11_report
      simp only [xV x, X_firmAt_n x cf.2.2.1 c1, Option.bind_some, if_true]
    · unfold f_X12_report
      simp only [mV m, M_isFirm_n m s1 (by omega) c1, Option.bind_some, if_true]
