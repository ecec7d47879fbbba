theorem op_back {S : St} {xb k : Nat} (h : JJ S xb (k + 1)) (x1 : Int32) : ∃ r S1, f_X11_back S xb x1 = some (r, S1) ∧ ∃ S2, f_X12_back S1 (xb + 22) x1 = some (r, S2) ∧ JJ S2 xb k := by
  obtain ⟨⟨g', j⟩, rm1, rm2⟩ := id h
  obtain ⟨nf, fa, np, pa, na, aa, ne, ea, il, nc, ca, rfl, b, c0, ct, cy, cf, cp, cn, ca', ce, cc, cl⟩ := j.op
  have x := b.2.2.1
  have m := b.2.2.2.1
  have q1 : mi S (xb + 22) 69 = nI nc := cc.1
  have n60 := cc.2.1
  rcases ixc x1 (n := nc) (by omega) with ⟨c, hc, rfl⟩ | c1
  · have c60 : c < 60 := by omega
    obtain ⟨H, a, p, q, s, v, hH, hl, a1, p1, p2, s1, e12, e49, e50, e39, r0, r1, r3, -, -, ⟨U, u1, u2⟩, mG⟩ := clm j hc
    obtain ⟨kc, lo, -, -, -, -, -, -, k4, k5, k6, -⟩ := cc.2.2.2.1 c hc
    have k4' : mi S (ca c) 4 = mi S (xb + 22 + 53) c := k4
    have k5' : ml S (ca c) 5 = ml S (xb + 22 + 54) c := k5
    have k6' : ml S (ca c) 6 = ml S (xb + 22 + 55) c := k6
    obtain ⟨G, hG⟩ : ∃ G : Int32, G = if v ≤ Mi S (xb + 22) 51 c ∧ 0 < prts (Mi S (xb + 22)) H np p q then (1 : Int32) else 0 := ⟨_, rfl⟩
    rw [← hG] at u1 mG
    clear hG
    have xU := x.sw u2
    have kU : kd U (ca c) = 3 := by rw [u2.kd]; exact kc
    by_cases d : mi S (xb + 22 + 53) c = 1
    · by_cases d0 : G = 0
      · -- taken back
        obtain ⟨S1, hS1⟩ : ∃ S1, S1 = setI U (ca c) 4 2 := ⟨_, rfl⟩
        have w1 : SW (fun z => z = ca c) U S1 := by rw [hS1]; exact SW_I _ _ rfl
        have k1 : kd S1 (ca c) = 3 := by rw [w1.kd]; exact kU
        have l5 : ml S1 (ca c) 5 = ml S (xb + 22 + 54) c := by
          rw [hS1]
          show ml U (ca c) 5 = _
          rw [(u2.2.2.2 (ca c) (by unfold PX; omega)).2]
          exact k5'
        have l6 : ml S1 (ca c) 6 = ml S (xb + 22 + 55) c := by
          rw [hS1]
          show ml U (ca c) 6 = _
          rw [(u2.2.2.2 (ca c) (by unfold PX; omega)).2]
          exact k6'
        have i4 : mi S1 (ca c) 4 = 2 := by rw [hS1, mi_setI_i, if_pos ⟨rfl, rfl⟩]
        have io : ∀ f, f ≠ 4 → mi S1 (ca c) f = mi U (ca c) f := fun f hf => by rw [hS1, mi_setI_i, if_neg (by omega)]
        have hX : f_X11_back S xb (nI c) = some (ml S (xb + 22 + 54) c, S1) := by
          unfold f_X11_back
          simp only [xV x, X_claimAt x cc.2.2.1 kc hc, Option.bind_some, if_neg (show ¬ (some (ca c) = none) by simp), getI_s kc, k4', if_pos d, u1, if_pos d0, putI_s kU, ← hS1, getL_s k1, l5]
        have e1 : ∀ o, o < 60 → Mi S1 (xb + 22) o = Mi S (xb + 22) o ∧ Ml S1 (xb + 22) o = Ml S (xb + 22) o := fun o ho => by
          have y := w1.2.2.2 (xb + 22 + o) (by omega)
          have y2 := PX_m u2 o
          exact ⟨y.1.trans y2.1, y.2.trans y2.2⟩
        have m1 : MOK S1 (xb + 22) := (m.sw u2).sw w1
        obtain ⟨B, g1, g2⟩ := mG S1 m1 (fun o ho => (e1 o ho).1) (congrFun (e1 42 (by omega)).2 a)
        have mB := m1.sw g2
        have z69 : mi S1 (xb + 22) 69 = nI nc := (congrFun (e1 0 (by omega)).1 69).trans q1
        have z53 : mi S1 (xb + 22 + 53) c = 1 := (congrFun (e1 53 (by omega)).1 c).trans d
        obtain ⟨S2, hS2⟩ : ∃ S2, S2 = setI B (xb + 22 + 53) c 2 := ⟨_, rfl⟩
        have w2 : SW (PC xb) B S2 := by rw [hS2]; exact SW_I _ _ (Or.inl rfl)
        have m2 := mB.sw w2
        have y54 : ml S2 (xb + 22 + 54) c = ml S (xb + 22 + 54) c := by
          rw [hS2]
          show ml B (xb + 22 + 54) c = _
          rw [(g2.2.2.2 (xb + 22 + 54) (by unfold PA P3; omega)).2]
          exact congrFun (e1 54 (by omega)).2 c
        have y55 : ml S2 (xb + 22 + 55) c = ml S (xb + 22 + 55) c := by
          rw [hS2]
          show ml B (xb + 22 + 55) c = _
          rw [(g2.2.2.2 (xb + 22 + 55) (by unfold PA P3; omega)).2]
          exact congrFun (e1 55 (by omega)).2 c
        refine ⟨_, _, hX, S2, ?_, ?_⟩
        · unfold f_X12_back
          simp only [mI m1, M_clm m1 z69 (by omega) hc, Option.bind_some, mR_claimState m1, mL_claimState m1 c60, z53, mV m1, g1, if_pos d0, mR_claimState mB, mS_claimState mB c60, nrw15, ← hS2, mR_paid m2, mL_paid m2 c60, y54]
          rw [if_neg (by decide), if_pos True.intro]
        · refine h.cst j hc u2 w1 g2 w2 ?_ (l5.trans y54.symm) (l6.trans y55.symm) (fun z hz => ?_) (fun z hz => ?_) (fun z hz => ?_) (io 2 (by omega)) (io 3 (by omega))
          · rw [i4, hS2, mi_setI_i, if_pos ⟨rfl, rfl⟩]
          · rw [hS2, mi_setI_i, if_neg (by omega)]
          · rw [hS2]; rfl
          · rw [hS2]; rfl
      · have mU := m.sw u2
        obtain ⟨B, g1, g2⟩ := mG U mU (fun o ho => (PX_m u2 o).1) (congrFun (PX_m u2 42).2 a)
        refine ⟨-1, U, ?_, B, ?_, h.pa u2 g2⟩
        · unfold f_X11_back
          simp only [xV x, X_claimAt x cc.2.2.1 kc hc, Option.bind_some, if_neg (show ¬ (some (ca c) = none) by simp), getI_s kc, k4', if_pos d, u1, if_neg d0]
        · have z69 : mi U (xb + 22) 69 = nI nc := (congrFun (PX_m u2 0).1 69).trans q1
          have z53 : mi U (xb + 22 + 53) c = 1 := (congrFun (PX_m u2 53).1 c).trans d
          unfold f_X12_back
          simp only [mI mU, M_clm mU z69 (by omega) hc, Option.bind_some, mR_claimState mU, mL_claimState mU c60, z53, mV mU, g1, if_neg d0]
          rw [if_neg (by decide), if_pos True.intro]
    · refine ⟨-1, S, ?_, S, ?_, h.le⟩
      · unfold f_X11_back
        simp only [xV x, X_claimAt x cc.2.2.1 kc hc, Option.bind_some, if_neg (show ¬ (some (ca c) = none) by simp), getI_s kc, k4', if_neg d]
      · unfold f_X12_back
        simp only [mI m, M_clm m q1 (by omega) hc, Option.bind_some, mR_claimState m, mL_claimState m c60, if_neg d]
        rw [if_neg (by decide)]
  · refine ⟨-1, S, ?_, S, ?_, h.le⟩
    · unfold f_X11_back
      simp only [xV x, X_claimAt_n x cc.2.2.1 c1, Option.bind_some, if_true]
    · unfold f_X12_back
      simp only [mI m, M_clm_n m q1 (by omega) c1, Option.bind_some, if_true]
