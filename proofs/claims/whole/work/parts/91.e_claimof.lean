theorem op_claimOf {S : St} {xb k : Nat} (h : JJ S xb (k + 1)) (x1 w : Int32) : ∃ r S1, f_X11_claimOf S xb x1 w = some (r, S1) ∧ ∃ S2, f_X12_claimOf S1 (xb + 22) x1 w = some (r, S2) ∧ JJ S2 xb k := by
  obtain ⟨⟨g', j⟩, rm1, rm2⟩ := id h
  obtain ⟨nf, fa, np, pa, na, aa, ne, ea, il, nc, ca, rfl, b, c0, ct, cy, cf, cp, cn, ca', ce, cc, cl⟩ := j.op
  have x := b.2.2.1
  have m := b.2.2.2.1
  have q1 : mi S (xb + 22) 69 = nI nc := cc.1
  have n60 := cc.2.1
  rcases ixc x1 (n := nc) (by omega) with ⟨c, hc, rfl⟩ | c1
  · have c60 : c < 60 := by omega
    obtain ⟨H, a, p, q, s, v, hH, hl, a1, p1, p2, s1, e12, e49, e50, e39, r0, r1, r3, ⟨T, t1, t2⟩, mA, ⟨U, u1, u2⟩, mG⟩ := clm j hc
    obtain ⟨kc, -, -, -, -, -, -, -, k4, k5, k6, -⟩ := cc.2.2.2.1 c hc
    have kp := (cp.2.2.2 q p2).1
    have pi0 : mi S (pa q) 0 = nI q := (cp.2.2.2 q p2).2.2.1
    have ka := (ca'.2.2.2 a a1).1
    have ai0 : mi S (aa a) 0 = nI a := (ca'.2.2.2 a a1).2.2.1
    have f49 : mi S (xb + 22 + 49) c = nI q := e49
    have f50 : mi S (xb + 22 + 50) c = nI a := e50
    have k4' : mi S (ca c) 4 = mi S (xb + 22 + 53) c := k4
    have k5' : ml S (ca c) 5 = ml S (xb + 22 + 54) c := k5
    have k6' : ml S (ca c) 6 = ml S (xb + 22 + 55) c := k6
    have hX : f_X11_claimOf S xb (nI c) w = (if w = 0 then some ((nI q).toInt64, S) else if w = 1 then some ((nI a).toInt64, S) else if w = 2 then some (v.toInt64, T) else if w = 3 then (if (if v ≤ Mi S (xb + 22) 51 c ∧ 0 < prts (Mi S (xb + 22)) H np p q then (1 : Int32) else 0) = 0 then some (0, U) else some (1, U)) else if w = 4 then some (ml S (xb + 22 + 54) c, S) else if w = 5 then some (ml S (xb + 22 + 55) c, S) else if w = 6 then some ((mi S (xb + 22 + 53) c).toInt64, S) else some (-1, S)) := by
      unfold f_X11_claimOf
      simp only [xV x, X_claimAt x cc.2.2.1 kc hc, Option.bind_some, if_neg (show ¬ (some (ca c) = none) by simp), getR_s kc, r0, r1, getI_s kp, getI_s ka, pi0, ai0, t1, u1, getL_s kc, getI_s kc, k4', k5', k6']
    have hM : ∀ Z : St, MOK Z (xb + 22) → (∀ o, o < 60 → Mi Z (xb + 22) o = Mi S (xb + 22) o ∧ Ml Z (xb + 22) o = Ml S (xb + 22) o) → ∃ A B, SW (PA xb) Z A ∧ SW (PA xb) Z B ∧ f_X12_claimOf Z (xb + 22) (nI c) w = (if w = 0 then some ((nI q).toInt64, Z) else if w = 1 then some ((nI a).toInt64, Z) else if w = 2 then some (v.toInt64, A) else if w = 3 then (if (if v ≤ Mi S (xb + 22) 51 c ∧ 0 < prts (Mi S (xb + 22)) H np p q then (1 : Int32) else 0) = 0 then some (0, B) else some (1, B)) else if w = 4 then some (ml S (xb + 22 + 54) c, Z) else if w = 5 then some (ml S (xb + 22 + 55) c, Z) else if w = 6 then some ((mi S (xb + 22 + 53) c).toInt64, Z) else some (-1, Z)) := by
      intro Z mZ hZ
      have z69 : mi Z (xb + 22) 69 = nI nc := (congrFun (hZ 0 (by omega)).1 69).trans q1
      have z49 : mi Z (xb + 22 + 49) c = nI q := (congrFun (hZ 49 (by omega)).1 c).trans e49
      have z50 : mi Z (xb + 22 + 50) c = nI a := (congrFun (hZ 50 (by omega)).1 c).trans e50
      have z53 : mi Z (xb + 22 + 53) c = mi S (xb + 22 + 53) c := congrFun (hZ 53 (by omega)).1 c
      have z54 : ml Z (xb + 22 + 54) c = ml S (xb + 22 + 54) c := congrFun (hZ 54 (by omega)).2 c
      have z55 : ml Z (xb + 22 + 55) c = ml S (xb + 22 + 55) c := congrFun (hZ 55 (by omega)).2 c
      have z42 : ml Z (xb + 22 + 42) a = Ml S (xb + 22) 42 a := congrFun (hZ 42 (by omega)).2 a
      obtain ⟨A, g1, g2⟩ := mA Z mZ (fun o ho => (hZ o ho).1) z42
      obtain ⟨B, g3, g4⟩ := mG Z mZ (fun o ho => (hZ o ho).1) z42
      refine ⟨A, B, g2, g4, ?_⟩
      unfold f_X12_claimOf
      simp only [mI mZ, M_clm mZ z69 (by omega) hc, Option.bind_some, mR_claimBy mZ, mL_claimBy mZ c60, mR_claimOn mZ, mL_claimOn mZ c60, mV mZ, z49, z50, g1, g3, mR_paid mZ, mL_paid mZ c60, mR_toFinder mZ, mL_toFinder mZ c60, mR_claimState mZ, mL_claimState mZ c60, z53, z54, z55]
      rw [if_neg (by decide)]
    obtain ⟨A, B, g1, g2, g3⟩ := hM S m (fun o _ => ⟨rfl, rfl⟩)
    rw [hX]
    by_cases d0 : w = 0
    · rw [if_pos d0]
      refine ⟨_, _, rfl, S, ?_, h.le⟩
      rw [g3, if_pos d0]
    rw [if_neg d0]
    rw [if_neg d0] at g3
    by_cases d1 : w = 1
    · rw [if_pos d1]
      refine ⟨_, _, rfl, S, ?_, h.le⟩
      rw [g3, if_pos d1]
    rw [if_neg d1]
    rw [if_neg d1] at g3
    by_cases d2 : w = 2
    · rw [if_pos d2]
      obtain ⟨A, B, g1, g2, g3⟩ := hM T (m.sw t2) (fun o _ => PX_m t2 o)
      refine ⟨_, _, rfl, A, ?_, h.pa t2 g1⟩
      rw [g3, if_neg d0, if_neg d1, if_pos d2]
    rw [if_neg d2]
    rw [if_neg d2] at g3
    by_cases d3 : w = 3
    · rw [if_pos d3]
      obtain ⟨A, B, g1, g2, g3⟩ := hM U (m.sw u2) (fun o _ => PX_m u2 o)
      rw [if_neg d0, if_neg d1, if_neg d2, if_pos d3] at g3
      by_cases d : (if v ≤ Mi S (xb + 22) 51 c ∧ 0 < prts (Mi S (xb + 22)) H np p q then (1 : Int32) else 0) = 0
      · rw [if_pos d]
        rw [if_pos d] at g3
        exact ⟨_, _, rfl, B, g3, h.pa u2 g2⟩
      · rw [if_neg d]
        rw [if_neg d] at g3
        exact ⟨_, _, rfl, B, g3, h.pa u2 g2⟩
    rw [if_neg d3]
    rw [if_neg d3] at g3
    by_cases d4 : w = 4
    · rw [if_pos d4]
      exact ⟨_, _, rfl, S, (by rw [g3, if_pos d4]), h.le⟩
    rw [if_neg d4]
    rw [if_neg d4] at g3
    by_cases d5 : w = 5
    · rw [if_pos d5]
      exact ⟨_, _, rfl, S, (by rw [g3, if_pos d5]), h.le⟩
    rw [if_neg d5]
    rw [if_neg d5] at g3
    by_cases d6 : w = 6
    · rw [if_pos d6]
      exact ⟨_, _, rfl, S, (by rw [g3, if_pos d6]), h.le⟩
    rw [if_neg d6]
    rw [if_neg d6] at g3
    exact ⟨_, _, rfl, S, g3, h.le⟩
  · refine ⟨-1, S, ?_, S, ?_, h.le⟩
    · unfold f_X11_claimOf
      simp only [xV x, X_claimAt_n x cc.2.2.1 c1, Option.bind_some, if_true]
    · unfold f_X12_claimOf
      simp only [mI m, M_clm_n m q1 (by omega) c1, Option.bind_some, if_true]
