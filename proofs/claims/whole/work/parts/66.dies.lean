/-! dies, person -/
theorem X_isHome (S : St) (v : Int32) : f_X11_isHome S v = some (if -1 ≤ v.toInt ∧ v.toInt ≤ 3 then 1 else 0) := by
  unfold f_X11_isHome
  simp only [X_isWithin, Option.bind_some, eq_i, Int32.reduceToInt]
  repeat' split
  all_goals first | rfl | (exfalso; omega) | (simp_all; done)
theorem PO.f7 {S T : St} {xb np : Nat} {M : MI} {pa : Nat → Nat} (h : ∀ i, i < np → PO S xb M pa i) (w : SW (fun z => ∃ i, i < np ∧ z = pa i) S T) (h7 : ∀ i k, i < np → k ≠ 7 → mi T (pa i) k = mi S (pa i) k) : ∀ i, i < np → PO T xb M pa i := fun i hi => by
  have o := h i hi
  unfold PO at o ⊢
  rw [w.kd, w.mr, h7 i 0 hi (by decide), h7 i 1 hi (by decide), h7 i 2 hi (by decide), h7 i 3 hi (by decide), h7 i 5 hi (by decide), h7 i 6 hi (by decide)]
  exact o
theorem op_dies {S : St} {xb k : Nat} (h : JJ S xb (k + 1)) (p d : Int32) : ∃ r S1, f_X11_dies S xb p d = some (r, S1) ∧ ∃ S2, f_X12_dies S1 (xb + 22) p d = some (r, S2) ∧ JJ S2 xb k := by
  obtain ⟨⟨g', j⟩, rm1, rm2⟩ := id h
  obtain ⟨nf, fa, np, pa, na, aa, ne, ea, il, nc, ca, rfl, b, c0, ct, cy, cf, cp, cn, ca', ce, cc, cl⟩ := j.op
  have x := b.2.2.1
  have m := b.2.2.2.1
  have p1 : mi S (xb + 22) 2 = nI np := cp.1
  have n24 := cp.2.1
  have e0 : mi S xb 0 = mi S (xb + 22) 0 := c0.1
  rcases ixc p (n := np) (by omega) with ⟨i, hi, rfl⟩ | c1
  · have oi := cp.2.2.2 i hi
    have hk := oi.1
    have hi24 : i < 24 := by omega
    have e6 : mi S (pa i) 6 = Mi S (xb + 22) 9 i := oi.2.2.2.2.2.2.2.1
    have e2 : mi S (pa i) 2 = Mi S (xb + 22) 5 i := oi.2.2.2.2.1
    have hb0 := oi.2.2.2.2.2.2.2.2.1
    have hM : ∀ T : St, MOK T (xb + 22) → (∀ o, o < 60 → Mi T (xb + 22) o = Mi S (xb + 22) o) → f_X12_dies T (xb + 22) (nI i) d = some (if Mi S (xb + 22) 9 i = -1 ∧ (0 ≤ d.toInt ∧ d.toInt ≤ (mi S xb 0).toInt) ∧ (Mi S (xb + 22) 5 i).toInt ≤ d.toInt then (1, setI T (xb + 22 + 9) i d) else (0, T)) := by
      intro T mT eT
      have q0 : mi T (xb + 22) 0 = mi S xb 0 := (congrFun (eT 0 (by omega)) 0).trans e0.symm
      have q2 : mi T (xb + 22) 2 = nI np := (congrFun (eT 0 (by omega)) 2).trans p1
      have q9 : mi T (xb + 22 + 9) i = Mi S (xb + 22) 9 i := congrFun (eT 9 (by omega)) i
      have q5 : mi T (xb + 22 + 5) i = Mi S (xb + 22) 5 i := congrFun (eT 5 (by omega)) i
      unfold f_X12_dies f_X12_dies_39
      simp only [mV mT, M_isPerson mT q2 (by omega) hi, Option.bind_some, mR_died mT, mL_died mT hi24, mR_born mT, mL_born mT hi24, mI mT, q0, q9, q5, M_isIn, i01, mS_died mT hi24, nrw15, Int32.reduceToInt]
      rw [if_neg (show ¬ ((1 : Int32) = 0) by decide)]
      by_cases c1 : Mi S (xb + 22) 9 i = -1
      · rw [if_pos c1]
        by_cases c2 : Mi S (xb + 22) 5 i = -1
        · have c2' : (Mi S (xb + 22) 5 i).toInt = -1 := by rw [c2]; rfl
          rw [if_pos c2]
          by_cases c3 : 0 ≤ d.toInt ∧ d.toInt ≤ (mi S xb 0).toInt
          · rw [if_neg (fun q => q c3), if_pos ⟨c1, c3, by omega⟩]
          · rw [if_pos c3, if_neg (fun q => c3 q.2.1)]
        · have c2' : (Mi S (xb + 22) 5 i).toInt ≠ -1 := fun q => c2 (by rw [eq_i]; exact q)
          rw [if_neg c2]
          by_cases c3 : (Mi S (xb + 22) 5 i).toInt ≤ d.toInt ∧ d.toInt ≤ (mi S xb 0).toInt
          · rw [if_neg (fun q => q c3), if_pos ⟨c1, by omega, by omega⟩]
          · rw [if_pos c3, if_neg (by omega)]
      · rw [if_neg c1, if_neg (fun q => c1 q.1)]
    by_cases cOK : Mi S (xb + 22) 9 i = -1 ∧ (0 ≤ d.toInt ∧ d.toInt ≤ (mi S xb 0).toInt) ∧ (Mi S (xb + 22) 5 i).toInt ≤ d.toInt
    · obtain ⟨d1, d2, d3⟩ := id cOK
      unfold f_X11_dies
      simp only [xV x, X_personAt x cp.2.2.1 hk hi, Option.bind_some, if_neg (show ¬ (some (pa i) = none) by simp), rcv_s hk, X_lives hk, e6, X_isPast x, i01, getI_s hk, e2, le_i]
      rw [if_neg (fun q => q d1), if_neg (fun q => q d2), if_pos d3, putI_s hk]
      simp only [Option.bind_some]
      obtain ⟨A, hA⟩ : ∃ A, A = setI S (pa i) 6 d := ⟨_, rfl⟩
      rw [← hA]
      have wA : SW (fun z => ∃ q, q < np ∧ z = pa q) S A := by rw [hA]; exact SW_I _ _ ⟨i, hi, rfl⟩
      have hPA : ∀ z, (∃ q, q < np ∧ z = pa q) → kd S z = 9 := fun z ⟨q, q1, q2⟩ => by rw [q2]; exact (cp.2.2.2 q q1).1
      have FA := wA.fr (fun z hz => by rw [hPA z hz]; omega)
      have xA := x.sw wA
      have cpA : CP A xb (up2 (Mi S (xb + 22)) 9 i d) np pa := by
        refine ⟨cp.1, cp.2.1, cp.2.2.1.gk b.1 FA hPA (by decide), fun z hz => ?_⟩
        obtain ⟨o1, o2, o3, o4, o5, o6, o7, o8, o9, o10, o11, o12⟩ := cp.2.2.2 z hz
        have hz6 : ∀ y, y ≠ 6 → mi A (pa z) y = mi S (pa z) y := fun y hy => by rw [hA, mi_setI_i, if_neg (fun c => hy c.2)]
        refine ⟨by rw [wA.kd]; exact o1, o2, by rw [hz6 0 (by decide)]; exact o3, by rw [hz6 1 (by decide)]; exact o4, by rw [hz6 2 (by decide)]; exact o5, by rw [hz6 3 (by decide)]; exact o6, by rw [hz6 5 (by decide)]; exact o7, ?_, o9, o10, o11, by rw [wA.mr]; exact o12⟩
        by_cases e : z = i
        · subst e
          rw [hA, mi_setI_i, if_pos ⟨rfl, rfl⟩, up2_eq]
        · rw [hA, mi_setI_i, if_neg (fun c => e (cp.inj hz hi c.1)), up2_nk _ e]; exact o8
      obtain ⟨B, b1, b2, b3, b4⟩ := X_lines xA cpA
      rw [xV xA]
      simp only [Option.bind_some, b1]
      have wB := wA.tr b2
      have FB := wB.fr (fun z hz => by rw [hPA z hz]; omega)
      have bB : BS B xb := b.fr FB (fun z _ => by rw [wB.mr]) (fun z hz => by rw [wB.kd]; have : kd S z = 99 := b.1 z hz; omega)
      have mB := bB.2.2.2.1
      have eB : ∀ o, o < 60 → Mi B (xb + 22) o = Mi S (xb + 22) o ∧ Ml B (xb + 22) o = Ml S (xb + 22) o := fun o ho => Fr_m_of b FB (fun z ⟨q, q1, q2⟩ => by rw [q2]; have := (cp.2.2.2 q q1).2.1; omega) o ho
      have xbs := xb_same b FB hPA (by decide)
      refine ⟨_, _, rfl, setI B (xb + 22 + 9) i d, ?_, ?_⟩
      · rw [hM B mB (fun o ho => (eB o ho).1), if_pos cOK]
      · refine h.fin (M' := up2 (Mi S (xb + 22)) 9 i d) (L' := Ml S (xb + 22)) (JX.mk bB (c0.gk b FB hPA (by decide) ⟨rfl, rfl, rfl⟩) (ct.gk b FB hPA (by decide) (by rw [xbs]) rfl rfl) (cy.gk b FB hPA (by decide) rfl) (cf.gk b FB hPA (by decide) rfl rfl rfl rfl rfl) ⟨cpA.1, cpA.2.1, cp.2.2.1.gk b.1 FB hPA (by decide), PO.f7 cpA.2.2.2 b2 b3⟩ b4 (ca'.gk b FB hPA (by decide) rfl (Int.le_refl _) rfl rfl rfl rfl rfl rfl rfl rfl) (ce.gk b FB hPA (by decide) (by rw [xbs]) (fun _ _ => Or.inl (by decide)) rfl rfl rfl rfl rfl rfl rfl) (cc.gk b FB hPA (by decide) rfl (fun _ _ z => z) rfl rfl rfl rfl rfl rfl rfl) (cl.gk b FB hPA (by decide) rfl rfl rfl rfl rfl rfl rfl rfl rfl rfl)) wB.cap (by rw [wB.nx]; omega) (by rw [wB.sl]; omega) (Fr_m mB (by omega) i _) rfl rfl rfl ?_ (PeqL_of (fun o ho => (eB o ho).2))
        rw [Mi_setI]
        exact (PeqI_of (fun o ho => (eB o ho).1)).up 9 i _
    · refine ⟨0, S, ?_, S, ?_, h.le⟩
      · unfold f_X11_dies
        simp only [xV x, X_personAt x cp.2.2.1 hk hi, Option.bind_some, if_neg (show ¬ (some (pa i) = none) by simp), rcv_s hk, X_lives hk, e6, X_isPast x, i01, getI_s hk, e2, le_i]
        by_cases d1 : Mi S (xb + 22) 9 i = -1
        · rw [if_neg (fun q => q d1)]
          by_cases d2 : 0 ≤ d.toInt ∧ d.toInt ≤ (mi S xb 0).toInt
          · rw [if_neg (fun q => q d2), if_neg (fun q => cOK ⟨d1, d2, q⟩)]
          · rw [if_pos d2]
        · rw [if_pos d1]
      · rw [hM S m (fun _ _ => rfl), if_neg cOK]
  · refine ⟨0, S, ?_, S, ?_, h.le⟩
    · unfold f_X11_dies
      simp only [xV x, X_personAt_n x cp.2.2.1 c1, Option.bind_some, if_true]
    · unfold f_X12_dies
      simp only [mV m, M_isPerson_n m p1 (by omega) c1, Option.bind_some, if_true]
