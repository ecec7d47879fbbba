theorem PeqI_of {M N : MI} (h : ∀ o, o < 60 → N o = M o) : PeqI M N := ⟨fun o ho => h o (by revert o; decide), fun f _ => by rw [h 0 (by omega)]⟩
theorem PeqL_of {M N : ML} (h : ∀ o, o < 60 → N o = M o) : PeqL M N := ⟨h _ (by omega), h _ (by omega), h _ (by omega)⟩
theorem PeqI.up' {M N : MI} (h : PeqI M N) {K : MI} (o i : Nat) (v : Int32) (e : K = up2 N o i v) : PeqI (up2 M o i v) K := e ▸ h.up o i v
theorem op_end {S : St} {xb k : Nat} (h : JJ S xb (k + 1)) (n : Int32) : ∃ r S1, f_X11_end S xb n = some (r, S1) ∧ ∃ S2, f_X12_end S1 (xb + 22) n = some (r, S2) ∧ JJ S2 xb k := by
  obtain ⟨⟨g, j⟩, -⟩ := id h
  obtain ⟨nf, fa, np, pa, na, aa, ne, ea, il, nc, ca, rfl, b, c0, ct, cy, cf, cp, cn, ca', ce, cc, cl⟩ := j.op
  have x := b.2.2.1
  have m := b.2.2.2.1
  obtain ⟨t, t1, t2, t3, t4⟩ := id ct
  have t3 : mi S (xb + 22) 44 = nI t := t3
  have tI := nI_toInt (n := t) (by omega)
  unfold f_X11_end
  simp only [xI x, xP x, t2, Option.bind_some, lt_i, le_i, Int32.reduceToInt, tI]
  by_cases c1 : n.toInt < 0
  · rw [if_pos c1]
    refine ⟨_, _, rfl, S, ?_, h.le⟩
    unfold f_X12_end
    simp only [mI m, t3, Option.bind_some, M_isIn, i01, Int32.reduceToInt, tI]
    rw [if_pos (by omega)]
  · rw [if_neg c1]
    by_cases c2 : n.toInt ≤ t
    · rw [if_pos c2]
      refine ⟨_, _, rfl, setI (setI S xb 7 n) (xb + 22) 44 n, ?_, ?_⟩
      · unfold f_X12_end
        have m1 := m.si xb 7 n
        simp only [mI m1, mP m1, mi_setI_i, if_neg (show ¬ (xb + 22 = xb ∧ 44 = 7) by omega), t3, Option.bind_some, M_isIn, i01, Int32.reduceToInt, tI]
        rw [if_neg (by omega)]
      · obtain ⟨u, u1, rfl⟩ := nI_of (x := n) (by rw [lt_i]; simpa using c1)
        rw [nI_toInt u1] at c2
        have F : Fr (fun a => a = xb) S (setI S xb 7 (nI u)) := Fr_setI 7 _ (by rw [x.1]; omega) (fun _ => rfl)
        refine h.fin (M' := up2 (Mi S (xb + 22)) 0 44 (nI u)) (L' := Ml S (xb + 22)) (j.go7 F (b.si 7 _ (by rw [x.1]; omega)) (fun a e => by subst e; have := x.1; unfold okq; omega) (by rw [mi_setI_i, if_neg (by omega)]) (QeqI.up (by decide) (by decide)) (PeqL.rf _) ?_ ?_ (cy.go (by funext i; rw [mi_setI_i, if_neg (by omega)]) rfl)) rfl (by rw [nx_setI]; omega) (by rw [sl_setI]; omega) (Fr_m0 (m.si xb 7 (nI u)) 44 _) rfl rfl rfl ?_ (PeqL.rf _)
        · unfold C0
          rw [mi_setI_i, mi_setI_i, mi_setI_i, if_neg (by omega), if_neg (by omega), if_neg (by omega)]
          exact c0
        · refine ⟨u, by omega, by rw [mi_setI_i, if_pos ⟨rfl, rfl⟩], by rw [up2_eq], fun i hi => ?_⟩
          rw [mi_setI_i, if_neg (by omega)]
          exact t4 i (by omega)
        · rw [Mi_setI0]
          exact (PeqI_of (fun o ho => by funext i; exact Mi_x 7 _ (by omega) o i ho)).up 0 44 _
    · rw [if_neg c2]
      refine ⟨_, _, rfl, S, ?_, h.le⟩
      unfold f_X12_end
      simp only [mI m, t3, Option.bind_some, M_isIn, i01, Int32.reduceToInt, tI]
      rw [if_pos (by omega)]
theorem op_fault {S : St} {xb k : Nat} (h : JJ S xb (k + 1)) (n : Int32) : ∃ r, f_X11_fault S xb n = some r ∧ f_X12_fault S (xb + 22) n = some r := by
  obtain ⟨⟨g, j⟩, -⟩ := id h
  obtain ⟨nf, fa, np, pa, na, aa, ne, ea, il, nc, ca, rfl, b, c0, ct, cy, cf, cp, cn, ca', ce, cc, cl⟩ := j.op
  have e1 : mi S xb 10 = mi S (xb + 22) 51 := c0.2.2.2.1
  have e2 : mi S xb 11 = mi S (xb + 22) 54 := c0.2.2.2.2
  unfold f_X11_fault f_X12_fault
  simp only [xI b.2.2.1, mI b.2.2.2.1, Option.bind_some, e1, e2]
  repeat' split
  all_goals exact ⟨_, rfl, rfl⟩
theorem op_costs {S : St} {xb k : Nat} (h : JJ S xb (k + 1)) (y c : Int32) : ∃ r S1, f_X11_costs S xb y c = some (r, S1) ∧ ∃ S2, f_X12_costs S1 (xb + 22) y c = some (r, S2) ∧ JJ S2 xb k := by
  obtain ⟨⟨g, j⟩, -⟩ := id h
  obtain ⟨nf, fa, np, pa, na, aa, ne, ea, il, nc, ca, rfl, b, c0, ct, cy, cf, cp, cn, ca', ce, cc, cl⟩ := j.op
  have x := b.2.2.1
  have m := b.2.2.2.1
  unfold f_X11_costs
  simp only [xR_costs x, xZ_costs x, X_isWithin, i01, Option.bind_some, lt_i, le_i, Int32.reduceToInt]
  rcases ixc y (n := 20) (by decide) with ⟨i, hi, rfl⟩ | c1
  · have tI := nI_toInt (n := i) (by omega)
    simp only [tI]
    rw [if_neg (by omega)]
    by_cases c2 : c.toInt < 1
    · rw [if_pos c2]
      refine ⟨_, _, rfl, S, ?_, h.le⟩
      unfold f_X12_costs
      simp only [Option.bind_some, M_isIn, i01, Int32.reduceToInt, tI]
      rw [if_neg (by omega), if_pos (by omega)]
    · rw [if_neg c2]
      by_cases c3 : c.toInt ≤ 99
      · rw [if_pos c3]
        simp only [xS_costs x hi, Option.bind_some, nrw15]
        refine ⟨_, _, rfl, setI (setI S (xb + 17) i c) (xb + 22 + 57) i c, ?_, ?_⟩
        · unfold f_X12_costs
          have m1 := m.si (xb + 17) i c
          simp only [Option.bind_some, M_isIn, i01, Int32.reduceToInt, tI]
          rw [if_neg (by omega), if_neg (by omega)]
          simp only [mR_cost m1, mS_cost m1 hi, Option.bind_some, nrw15]
        · have F : Fr (fun a => a = xb + 17) S (setI S (xb + 17) i c) := Fr_setI i _ (by rw [xK_costs x]; omega) (fun _ => rfl)
          refine h.fin (M' := up2 (Mi S (xb + 22)) 57 i c) (L' := Ml S (xb + 22)) (j.go7 F (b.si i _ (by rw [xK_costs x]; omega)) (fun a e => by subst e; have := xK_costs x; unfold okq; omega) (by rw [mi_setI_i, if_neg (by omega)]) (QeqI.up (by decide) (fun e => absurd e (by decide))) (PeqL.rf _) (c0.go (by funext i; rw [mi_setI_i, if_neg (by omega)]) ⟨rfl, rfl, rfl⟩) (ct.go (by rw [mi_setI_i, if_neg (by omega)]) (by funext i; rw [mi_setI_i, if_neg (by omega)]) rfl rfl) ?_) rfl (by rw [nx_setI]; omega) (by rw [sl_setI]; omega) (Fr_m (m.si _ i c) (by omega) i _) rfl rfl rfl ?_ (PeqL.rf _)
          · intro z hz
            by_cases e : z = i
            · subst e
              rw [mi_setI_i, if_pos ⟨rfl, rfl⟩, up2_eq]
              exact ⟨rfl, by omega, by omega⟩
            · rw [mi_setI_i, if_neg (fun q => e q.2), up2_nk _ e]
              exact cy z hz
          · rw [Mi_setI]
            exact (PeqI_of (fun o ho => by funext z; exact Mi_x i _ (by omega) o z ho)).up 57 i _
      · rw [if_neg c3]
        refine ⟨_, _, rfl, S, ?_, h.le⟩
        unfold f_X12_costs
        simp only [Option.bind_some, M_isIn, i01, Int32.reduceToInt, tI]
        rw [if_neg (by omega), if_pos (by omega)]
  · rw [if_pos (by omega)]
    refine ⟨_, _, rfl, S, ?_, h.le⟩
    unfold f_X12_costs
    simp only [Option.bind_some, M_isIn, i01, Int32.reduceToInt]
    rw [if_pos (by omega)]
theorem op_moves {S : St} {xb k : Nat} (h : JJ S xb (k + 1)) (p v : Int32) : ∃ r S1, f_X11_moves S xb p v = some (r, S1) ∧ ∃ S2, f_X12_moves S1 (xb + 22) p v = some (r, S2) ∧ JJ S2 xb k := by
  obtain ⟨⟨g, j⟩, -⟩ := id h
  obtain ⟨nf, fa, np, pa, na, aa, ne, ea, il, nc, ca, rfl, b, c0, ct, cy, cf, cp, cn, ca', ce, cc, cl⟩ := j.op
  have x := b.2.2.1
  have m := b.2.2.2.1
  obtain ⟨p1, p2, p3, p4⟩ := id cp
  have p1 : mi S (xb + 22) 2 = nI np := p1
  unfold f_X11_moves
  rcases ixc p (n := np) (by omega) with ⟨i, hi, rfl⟩ | c1
  · have hk := (p4 i hi).1
    simp only [xV x, X_personAt x p3 hk hi, Option.bind_some, if_neg (show ¬ (some (pa i) = none) by simp)]
    have hH : f_X11_isHome S v = some (if -1 ≤ v.toInt ∧ v.toInt ≤ 3 then 1 else 0) := by
      unfold f_X11_isHome
      simp only [X_isWithin, Option.bind_some, eq_i, Int32.reduceToInt]
      repeat' split
      all_goals first | rfl | (exfalso; omega) | (simp_all; done)
    simp only [hH, i01, Option.bind_some]
    by_cases c2 : -1 ≤ v.toInt ∧ v.toInt ≤ 3
    · rw [if_neg (by omega), putI_s hk]
      simp only [Option.bind_some]
      refine ⟨_, _, rfl, setI (setI S (pa i) 5 v) (xb + 22 + 6) i v, ?_, ?_⟩
      · unfold f_X12_moves
        have m1 := m.si (pa i) 5 v
        have hx : mi (setI S (pa i) 5 v) (xb + 22) 2 = nI np := by
          rw [mi_setI_i, if_neg (by omega), p1]
        simp only [mV m1, M_isPerson m1 hx (by omega) hi, Option.bind_some, M_isIn, i01, Int32.reduceToInt]
        rw [if_neg (by decide), if_neg (by omega)]
        simp only [mR_home m1, mS_home m1 (show i < 24 by omega), Option.bind_some, nrw15]
      · have F : Fr (fun a => a = pa i) S (setI S (pa i) 5 v) := Fr_setI 5 _ (by omega) (fun _ => rfl)
        have hP : ∀ a, a = pa i → kd S a = 9 := fun a e => by rw [e]; exact hk
        have hxb : pa i ≠ xb := fun e => by rw [e, x.1] at hk; omega
        refine h.fin (M' := up2 (Mi S (xb + 22)) 6 i v) (L' := Ml S (xb + 22)) (JX.mk (b.si 5 _ (by omega)) (c0.gk b F hP (by decide) ⟨rfl, rfl, rfl⟩) (ct.gk b F hP (by decide) (by rw [xb_same b F hP (by decide)]) rfl rfl) (cy.gk b F hP (by decide) rfl) (cf.gk b F hP (by decide) rfl rfl rfl rfl rfl) ?_ ?_ (ca'.gk b F hP (by decide) rfl (Int.le_refl _) rfl rfl rfl rfl rfl rfl rfl rfl) (ce.gk b F hP (by decide) (by rw [xb_same b F hP (by decide)]) (fun _ _ => Or.inl (by decide)) rfl rfl rfl rfl rfl rfl rfl) (cc.gk b F hP (by decide) rfl (fun _ _ z => z) rfl rfl rfl rfl rfl rfl rfl) (cl.gk b F hP (by decide) rfl rfl rfl rfl rfl rfl rfl rfl rfl rfl)) rfl (by rw [nx_setI]; omega) (by rw [sl_setI]; omega) (Fr_m (m.si _ 5 v) (by omega) i _) rfl rfl rfl ?_ (PeqL.rf _)
        · refine ⟨p1, p2, p3.gk b.1 F hP (by decide), fun z hz => ?_⟩
          by_cases e : z = i
          · subst e
            obtain ⟨o1, o2, o3, o4, o5, o6, o7, o8, o9, o10, o11, o12⟩ := p4 z hz
            refine ⟨o1, o2, ?_, ?_, ?_, ?_, ?_, ?_, o9, o10, ?_, o12⟩
            · rw [mi_setI_i, if_neg (by omega)]; exact o3
            · rw [mi_setI_i, if_neg (by omega)]; exact o4
            · rw [mi_setI_i, if_neg (by omega)]; exact o5
            · rw [mi_setI_i, if_neg (by omega)]; exact o6
            · rw [mi_setI_i, if_pos ⟨rfl, rfl⟩, up2_eq]
            · rw [mi_setI_i, if_neg (by omega)]; exact o8
            · rw [up2_eq]
              by_cases c5 : v.toInt = -1
              · left; rw [eq_i]; simpa using c5
              · right
                obtain ⟨u, u1, rfl⟩ := nI_of (x := v) (by rw [lt_i]; simp only [Int32.reduceToInt]; omega)
                rw [nI_toInt u1] at c2
                exact ⟨u, by omega, rfl⟩
          · have hne : pa z ≠ pa i := fun q => e (cp.inj hz hi q)
            have hz' := (p4 z hz).go (M' := Mi S (xb + 22)) b.1 F (fun q => hne q) rfl rfl rfl rfl rfl rfl
            obtain ⟨o1, o2, o3, o4, o5, o6, o7, o8, o9, o10, o11, o12⟩ := hz'
            exact ⟨o1, o2, o3, o4, o5, o6, by rw [o7, up2_nk _ e], o8, o9, o10, by rw [up2_nk _ e]; exact o11, o12⟩
        · obtain ⟨H, n1, n2⟩ := cn
          refine ⟨H, n1, fun q hq => ?_⟩
          rw [mi_setI_i, if_neg (by omega)]
          exact n2 q hq
        · rw [Mi_setI]
          exact (PeqI_of (fun o ho => by funext z; exact Mi_x 5 _ (by have := (p4 i hi).2.1; omega) o z ho)).up 6 i _
    · rw [if_pos (by omega)]
      refine ⟨_, _, rfl, S, ?_, h.le⟩
      unfold f_X12_moves
      simp only [mV m, M_isPerson m p1 (by omega) hi, Option.bind_some, M_isIn, i01, Int32.reduceToInt]
      rw [if_neg (by decide), if_pos (by omega)]
  · simp only [xV x, X_personAt_n x p3 c1, Option.bind_some, if_true]
    refine ⟨_, _, rfl, S, ?_, h.le⟩
    unfold f_X12_moves
    simp only [mV m, M_isPerson_n m p1 (by omega) c1, Option.bind_some, if_true]
