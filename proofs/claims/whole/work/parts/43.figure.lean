theorem op_figure {S : St} {xb k : Nat} (h : JJ S xb (k + 1)) (f y v : Int32) : ∃ r S1, f_X11_figure S xb f y v = some (r, S1) ∧ ∃ S2, f_X12_figure S1 (xb + 22) f y v = some (r, S2) ∧ JJ S2 xb k := by
  obtain ⟨⟨g', j⟩, rm1, rm2⟩ := id h
  obtain ⟨nf, fa, np, pa, na, aa, ne, ea, il, nc, ca, rfl, b, c0, ct, cy, cf, cp, cn, ca', ce, cc, cl⟩ := j.op
  have x := b.2.2.1
  have m := b.2.2.2.1
  obtain ⟨p1, p2, p3, p4, p5⟩ := id cf
  have p1 : mi S (xb + 22) 1 = nI nf := p1
  rcases ixc f (n := nf) (by omega) with ⟨i, hi, rfl⟩ | c1
  · obtain ⟨hk, o2, o3, o4, o5, o6, o7, o8, o9, o10⟩ := p4 i hi
    have hS : f_X4_setFigure S (fa i) y v = some (if 0 ≤ y.toInt ∧ y.toInt < 20 then (1, setI S (fa i + 1) y.toNatClampNeg v) else (0, S)) := by
      unfold f_X4_setFigure
      simp only [getR_s hk, o6, Option.bind_some, alen_s (show 14 ≤ kd S (fa i + 1) ∧ kd S (fa i + 1) ≤ 20 by omega) o8, X_isWithin, i01, nI_toInt (show 20 < 2 ^ 31 by decide)]
      rcases ixc y (n := 20) (by decide) with ⟨t, ht, rfl⟩ | c
      · have tI := nI_toInt (n := t) (by omega)
        rw [if_neg (by rw [tI]; omega), if_pos (by rw [tI]; omega), stI_s o7 o8 ht (by decide), nI_clamp (by omega)]
        simp only [Option.bind_some, nrw15]
      · rw [if_pos (by omega), if_neg (by omega)]
    have hX : f_X11_figure S xb (nI i) y v = some (if (-1 ≤ v.toInt ∧ v.toInt ≤ 999999) ∧ 0 ≤ y.toInt ∧ y.toInt < 20 then (1, setI S (fa i + 1) y.toNatClampNeg v) else (0, S)) := by
      have h27 : ∀ t0 : Int32, f_X11_figure_27 S y v (some (fa i)) t0 = some (if t0 = 0 then (0, S) else if 0 ≤ y.toInt ∧ y.toInt < 20 then (1, setI S (fa i + 1) y.toNatClampNeg v) else (0, S)) := by
        intro t0
        unfold f_X11_figure_27
        rw [if_neg (show ¬ (some (fa i) = none) by simp)]
        by_cases c0 : t0 = 0
        · rw [if_pos c0, if_pos c0]
        · rw [if_neg c0, if_neg c0]
          simp only [rcv_s hk, hS, Option.bind_some]
          by_cases c1 : 0 ≤ y.toInt ∧ y.toInt < 20
          · rw [if_pos c1]; rfl
          · rw [if_neg c1]; rfl
      unfold f_X11_figure f_X11_figure_22
      simp only [xV x, X_firmAt x p3 hk hi, Option.bind_some, X_isWithin, i01, h27, Int32.reduceToInt]
      rw [if_neg (show ¬ ((1 : Int32) = 0) by decide), if_pos True.intro]
      have e1 : v = -1 ↔ v.toInt = -1 := eq_i v (-1)
      by_cases c0 : v = -1
      · rw [if_pos c0]
        congr 1
        exact ifc ⟨fun q => ⟨by have := e1.mp c0; omega, q⟩, fun q => q.2⟩
      · rw [if_neg c0]
        have c00 : v.toInt ≠ -1 := fun q => c0 (e1.mpr q)
        by_cases c2 : 0 ≤ v.toInt ∧ v.toInt < 1000000
        · rw [if_neg (fun q => q c2)]
          congr 1
          exact ifc ⟨fun q => ⟨by omega, q⟩, fun q => q.2⟩
        · rw [if_pos c2, if_neg (by omega)]
    have hM : ∀ T : St, MOK T (xb + 22) → mi T (xb + 22) 1 = nI nf → f_X12_figure T (xb + 22) (nI i) y v = some (if (-1 ≤ v.toInt ∧ v.toInt ≤ 999999) ∧ 0 ≤ y.toInt ∧ y.toInt < 20 then (1, setI T (xb + 22 + 56) (20 * i + y.toNatClampNeg) v) else (0, T)) := by
      intro T mT hT
      unfold f_X12_figure
      simp only [mV mT, M_isFirm mT hT (by omega) hi, Option.bind_some, M_isIn, i01, Int32.reduceToInt]
      rw [if_neg (by decide)]
      rcases ixc y (n := 20) (by decide) with ⟨t, ht, rfl⟩ | c
      · have tI := nI_toInt (n := t) (by omega)
        rw [if_neg (by rw [tI]; omega), nI_clamp (by omega)]
        by_cases c : -1 ≤ v.toInt ∧ v.toInt ≤ 999999
        · rw [if_neg (by omega), if_pos (by rw [tI]; omega)]
          simp only [mR_figures mT, Option.bind_some]
          rw [show (20 : Int32) * nI i + nI t = nI (20 * i + t) by rw [show (20 : Int32) = nI 20 from rfl, pk_mul, nI_add], mS_figures mT (by omega)]
          simp only [Option.bind_some, nrw15]
        · rw [if_pos c, if_neg (fun q => c q.1)]
      · rw [if_pos (by omega), if_neg (by omega)]
    rw [hX]
    by_cases c9 : (-1 ≤ v.toInt ∧ v.toInt ≤ 999999) ∧ 0 ≤ y.toInt ∧ y.toInt < 20
    · rw [if_pos c9]
      have F : Fr (fun a => a = fa i + 1) S (setI S (fa i + 1) y.toNatClampNeg v) := (Fr.rf (fun a => a = fa i + 1) S).sI (a := fa i + 1) _ _ (by omega) (fun _ => rfl)
      have hP : ∀ a, a = fa i + 1 → kd S a = 15 := fun a e => by rw [e]; exact o7
      have bU : BS (setI S (fa i + 1) y.toNatClampNeg v) xb := b.si _ _ (by omega)
      have mU := bU.2.2.2.1
      have eT : ∀ o', o' < 60 → Mi (setI S (fa i + 1) y.toNatClampNeg v) (xb + 22) o' = Mi S (xb + 22) o' := fun o' ho' => (Fr_m_of b F (fun a e => by rw [e]; omega) o' ho').1
      refine ⟨_, _, rfl, setI (setI S (fa i + 1) y.toNatClampNeg v) (xb + 22 + 56) (20 * i + y.toNatClampNeg) v, ?_, ?_⟩
      · rw [hM _ mU ((congrFun (eT 0 (by omega)) 1).trans p1), if_pos c9]
      · obtain ⟨t, ht, rfl⟩ := (ixc y (n := 20) (by decide)).resolve_right (fun q => q ⟨c9.2.1, by have := c9.2.2; omega⟩)
        rw [nI_clamp (by omega)] at *
        refine h.fin (M' := up2 (Mi S (xb + 22)) 56 (20 * i + t) v) (L' := Ml S (xb + 22)) (JX.mk bU (c0.gk b F hP (by decide) ⟨rfl, rfl, rfl⟩) (ct.gk b F hP (by decide) (by rw [xb_same b F hP (by decide)]) rfl rfl) (cy.go (by funext z; rw [mi_setI_i, if_neg (by omega)]) rfl) ?_ (cp.gk b F hP (by decide) rfl rfl rfl rfl rfl rfl rfl) (cn.gk cp b F hP (by decide) rfl rfl) (ca'.gk b F hP (by decide) rfl (Int.le_refl _) rfl rfl rfl rfl rfl rfl rfl rfl) (ce.gk b F hP (by decide) (by rw [xb_same b F hP (by decide)]) (fun _ _ => Or.inl (by decide)) rfl rfl rfl rfl rfl rfl rfl) (cc.gk b F hP (by decide) rfl (fun _ _ z => z) rfl rfl rfl rfl rfl rfl rfl) (cl.go b.1 F rfl (fun a e => by rw [e]; exact ⟨by omega, fun _ => Or.inr hk⟩) rfl rfl rfl rfl rfl rfl rfl rfl rfl rfl)) rfl (by show nx S ≤ _; omega) (by show sl S ≤ _; omega) (Fr_m mU (by omega) _ _) rfl rfl rfl ?_ (PeqL_of (fun o' ho' => (Fr_m_of b F (fun a e => by rw [e]; omega) o' ho').2))
        · refine ⟨p1, p2, p3.gk b.1 F hP (by decide), fun z hz => ?_, fun z w z1 z2 z3 => ?_⟩
          · by_cases ez : z = i
            · subst ez
              refine ⟨hk, o2, ?_, ?_, o5, o6, o7, o8, fun w hw => ?_, ?_⟩
              · rw [mi_setI_i, if_neg (by omega)]; exact o3
              · rw [mi_setI_i, if_neg (by omega)]; exact o4
              · by_cases ew : w = t
                · rw [ew, mi_setI_i, if_pos ⟨rfl, rfl⟩, up2_eq]
                  exact ⟨rfl, c9.1⟩
                · rw [mi_setI_i, if_neg (by omega), up2_nk _ (by omega)]
                  exact o9 w hw
              · rcases o10 with c | ⟨u, u1, u2, u3, u4, u5⟩
                · exact Or.inl c
                · exact Or.inr ⟨u, u1, u2, u3, by rw [mi_setI_i, if_neg (by omega)]; exact u4, u5⟩
            · have hne : fa z ≠ fa i + 1 := fun q => by have := (p4 z hz).1; rw [q] at this; omega
              have hne2 : fa z + 1 ≠ fa i + 1 := fun q => ez (cf.inj hz hi (by omega))
              obtain ⟨s1, s2, s3, s4, s5, s6, s7, s8, s9, s10⟩ := (p4 z hz).go (M' := Mi S (xb + 22)) b.1 F hne hne2 rfl rfl rfl rfl
              exact ⟨s1, s2, s3, s4, s5, s6, s7, s8, fun w hw => by rw [up2_nk _ (by omega)]; exact s9 w hw, s10⟩
          · rw [up2_nk _ (by omega)]
            exact p5 z w z1 z2 z3
        · rw [Mi_setI]
          exact (PeqI_of eT).up 56 _ _
    · rw [if_neg c9]
      refine ⟨_, _, rfl, S, ?_, h.le⟩
      rw [hM S m p1, if_neg c9]
  · refine ⟨0, S, ?_, S, ?_, h.le⟩
    · unfold f_X11_figure f_X11_figure_22 f_X11_figure_27
      simp only [xV x, X_firmAt_n x p3 c1, Option.bind_some, if_true, X_isWithin]
      repeat' split
      all_goals rfl
    · unfold f_X12_figure
      simp only [mV m, M_isFirm_n m p1 (by omega) c1, Option.bind_some, if_true]
