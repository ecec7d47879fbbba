/-! merge, figure -/
/-- one was merged into f on day d or behind it -/
abbrev tk (M : MI) (f : Nat) (d : Int32) (o : Nat) : Prop := M 2 o = nI f ∧ d.toInt ≤ (M 3 o).toInt
theorem ifc {α : Type} {c d : Prop} [Decidable c] [Decidable d] {a b : α} (h : c ↔ d) : (if c then a else b) = if d then a else b := by
  by_cases e : c
  · rw [if_pos e, if_pos (h.mp e)]
  · rw [if_neg e, if_neg (fun z => e (h.mpr z))]
section Merge
variable {S : St} {xb : Nat} {M : MI} {nf : Nat} {fa : Nat → Nat}
theorem CF.intoEq (h : CF S xb M nf fa) {o f : Nat} (ho : o < nf) (hf : f < nf) : (mr S (fa o) 2 = some (fa f) ↔ M 2 o = nI f) ∧ (M 2 o = nI f → mi S (fa o) 3 = M 3 o) := by
  rcases (h.2.2.2.1 o ho).2.2.2.2.2.2.2.2.2 with ⟨e1, e2⟩ | ⟨j, j1, j2, j3, j4, j5⟩
  · have hm : (-1 : Int32) ≠ nI f := by
      rw [Ne, eq_i, nI_toInt (by have := h.2.1; omega)]; simp only [Int32.reduceToInt]; omega
    rw [e2, e1]
    exact ⟨⟨fun q => (by cases q), fun q => absurd q hm⟩, fun q => absurd q hm⟩
  · refine ⟨?_, fun _ => j4⟩
    rw [j3, j2, nI_eq (by have := h.2.1; omega) (by have := h.2.1; omega)]
    constructor
    · intro q
      exact h.inj j1 hf (Option.some.inj q)
    · intro q; rw [q]
theorem X_took (x : XOK S xb) (h : CF S xb M nf fa) {f : Nat} (hf : f < nf) (d : Int32) : ∀ (n t fu : Nat), t + n = nf → n < fu → f_X11_tookOneSince_2 fu S xb (some (fa f)) d (nI t) = some (if ∃ o, o < nf ∧ t ≤ o ∧ tk M f d o then 1 else 0)
  | n, t, 0, _, h2 => by omega
  | 0, t, fu + 1, h1, _ => by
    unfold f_X11_tookOneSince_2
    have h8 := h.2.1
    simp only [xR_firms x, xV_firms x, L_size h.2.2.1, Option.bind_some]
    rw [if_pos (nI_le (by omega) (by omega)), if_neg]
    rintro ⟨o, o1, o2, -⟩; omega
  | n + 1, t, fu + 1, h1, h2 => by
    unfold f_X11_tookOneSince_2
    have h8 := h.2.1
    have ht : t < nf := by omega
    have hk := (h.2.2.2.1 t ht).1
    simp only [xR_firms x, xV_firms x, L_size h.2.2.1, Option.bind_some]
    rw [if_neg (nI_ge (by omega) (by omega))]
    simp only [L_get h.2.2.1 ht, castO_s hk, getR_s hk, getI_s hk, Option.bind_some]
    obtain ⟨q1, q2⟩ := h.intoEq ht hf
    rw [nI_1, X_took x h hf d n (t + 1) fu (by omega) (by omega)]
    by_cases c1 : M 2 t = nI f
    · rw [if_pos (q1.mpr c1), q2 c1]
      by_cases c2 : (M 3 t).toInt < d.toInt
      · rw [if_pos (by rw [lt_i]; exact c2)]
        congr 1
        refine ifc ⟨fun ⟨o, o1, o2, o3⟩ => ⟨o, o1, by omega, o3⟩, fun ⟨o, o1, o2, o3⟩ => ⟨o, o1, ?_, o3⟩⟩
        rcases Nat.lt_or_ge t o with c | c
        · exact c
        · have : o = t := by omega
          rw [this] at o3
          exact absurd o3.2 (by omega)
      · rw [if_neg (by rw [lt_i]; exact c2), if_pos ⟨t, ht, Nat.le_refl _, c1, by omega⟩]
    · rw [if_neg (fun q => c1 (q1.mp q))]
      congr 1
      refine ifc ⟨fun ⟨o, o1, o2, o3⟩ => ⟨o, o1, by omega, o3⟩, fun ⟨o, o1, o2, o3⟩ => ⟨o, o1, ?_, o3⟩⟩
      rcases Nat.lt_or_ge t o with c | c
      · exact c
      · have : o = t := by omega
        rw [this] at o3
        exact absurd o3.1 c1
theorem M_took {mb : Nat} (m : MOK S mb) (h1 : mi S mb 1 = nI nf) (h8 : nf ≤ 8) {f g : Nat} (hf : f < nf) (d : Int32) : ∀ (n t fu : Nat), t + n = nf → n < fu → f_X12_merge_53 fu S mb (nI f) (nI g) d (nI t) = some (if ∃ o, o < nf ∧ t ≤ o ∧ tk (Mi S mb) f d o then (0, S) else (1, setI (setI S (mb + 2) f (nI g)) (mb + 3) f d))
  | n, t, 0, _, h2 => by omega
  | 0, t, fu + 1, ht, _ => by
    unfold f_X12_merge_53
    have m1 := m.si (mb + 2) f (nI g)
    simp only [mI m, h1, Option.bind_some]
    rw [if_pos (nI_le (by omega) (by omega)), if_neg (by rintro ⟨o, o1, o2, -⟩; omega)]
    simp only [mR_mergedInto m, mS_mergedInto m (show f < 8 by omega), mR_mergedOn m1, mS_mergedOn m1 (show f < 8 by omega), nrw15, Option.bind_some]
  | n + 1, t, fu + 1, ht, h2 => by
    unfold f_X12_merge_53
    simp only [mI m, h1, Option.bind_some]
    rw [if_neg (nI_ge (by omega) (by omega))]
    simp only [mR_mergedInto m, mL_mergedInto m (show t < 8 by omega), mR_mergedOn m, mL_mergedOn m (show t < 8 by omega), Option.bind_some]
    rw [nI_1, M_took m h1 h8 hf d n (t + 1) fu (by omega) (by omega)]
    show (if Mi S mb 2 t = nI f then if Mi S mb 3 t < d then _ else _ else _) = _
    by_cases c1 : Mi S mb 2 t = nI f
    · rw [if_pos c1]
      by_cases c2 : (Mi S mb 3 t).toInt < d.toInt
      · rw [if_pos (by rw [lt_i]; exact c2)]
        congr 1
        refine ifc ⟨fun ⟨o, o1, o2, o3⟩ => ⟨o, o1, by omega, o3⟩, fun ⟨o, o1, o2, o3⟩ => ⟨o, o1, ?_, o3⟩⟩
        rcases Nat.lt_or_ge t o with c | c
        · exact c
        · have : o = t := by omega
          rw [this] at o3
          exact absurd o3.2 (by omega)
      · rw [if_neg (by rw [lt_i]; exact c2), if_pos ⟨t, by omega, Nat.le_refl _, c1, by omega⟩]
    · rw [if_neg c1]
      congr 1
      refine ifc ⟨fun ⟨o, o1, o2, o3⟩ => ⟨o, o1, by omega, o3⟩, fun ⟨o, o1, o2, o3⟩ => ⟨o, o1, ?_, o3⟩⟩
      rcases Nat.lt_or_ge t o with c | c
      · exact c
      · have : o = t := by omega
        rw [this] at o3
        exact absurd o3.1 c1
theorem X_isMergedBy (h : CF S xb M nf fa) {i : Nat} (hi : i < nf) (d : Int32) : f_X4_isMergedBy S (fa i) d = some (if mgd M d i then 1 else 0) := by
  unfold f_X4_isMergedBy
  have hk := (h.2.2.2.1 i hi).1
  simp only [getR_s hk, getI_s hk, Option.bind_some]
  rcases (h.2.2.2.1 i hi).2.2.2.2.2.2.2.2.2 with ⟨e1, e2⟩ | ⟨j, j1, j2, j3, j4, j5⟩
  · rw [e2, if_pos rfl, if_neg (fun q => q.1 e1)]
  · have hm : M 2 i ≠ -1 := by
      rw [j2, Ne, eq_i, nI_toInt (by have := h.2.1; omega)]; simp only [Int32.reduceToInt]; omega
    rw [j3, j4, if_neg (by simp)]
    by_cases c : d.toInt < (M 3 i).toInt
    · rw [if_pos (by rw [lt_i]; exact c), if_neg (by omega)]
    · rw [if_neg (by rw [lt_i]; exact c), if_pos ⟨hm, by omega⟩]
end Merge
theorem op_merge {S : St} {xb k : Nat} (h : JJ S xb (k + 1)) (f g d : Int32) : ∃ r S1, f_X11_merge S xb f g d = some (r, S1) ∧ ∃ S2, f_X12_merge S1 (xb + 22) f g d = some (r, S2) ∧ JJ S2 xb k := by
  obtain ⟨⟨g', j⟩, rm1, rm2⟩ := id h
  obtain ⟨nf, fa, np, pa, na, aa, ne, ea, il, nc, ca, rfl, b, c0, ct, cy, cf, cp, cn, ca', ce, cc, cl⟩ := j.op
  have x := b.2.2.1
  have m := b.2.2.2.1
  obtain ⟨p1, p2, p3, p4, p5⟩ := id cf
  have p1 : mi S (xb + 22) 1 = nI nf := p1
  have e0 : mi S xb 0 = mi S (xb + 22) 0 := c0.1
  rcases ixc f (n := nf) (by omega) with ⟨i, hi, rfl⟩ | c1
  · have hk := (p4 i hi).1
    rcases ixc g (n := nf) (by omega) with ⟨o, ho, rfl⟩ | c2
    · have hko := (p4 o ho).1
      have hX : f_X11_merge S xb (nI i) (nI o) d = some (if i = o ∨ ¬ (0 ≤ d.toInt ∧ d.toInt ≤ (mi S xb 0).toInt) ∨ Mi S (xb + 22) 2 i ≠ -1 ∨ mgd (Mi S (xb + 22)) d o ∨ (∃ z, z < nf ∧ 0 ≤ z ∧ tk (Mi S (xb + 22)) i d z) then (0, S) else (1, setI (setR S (fa i) 2 (some (fa o))) (fa i) 3 d)) := by
        unfold f_X11_merge
        simp only [xV x, X_firmAt x p3 hk hi, X_firmAt x p3 hko ho, Option.bind_some, if_neg (show ¬ (some (fa i) = none) by simp), if_neg (show ¬ (some (fa o) = none) by simp), X_isPast x, i01, getR_s hk, rcv_s hko, X_isMergedBy cf ho]
        unfold f_X11_tookOneSince
        have hT := X_took x cf hi d nf 0 FU (by omega) (by unfold FU; omega)
        rw [nI_0] at hT
        rw [hT]
        simp only [Option.bind_some]
        by_cases c3 : i = o
        · rw [if_pos (by rw [c3]), if_pos (Or.inl c3)]
        · rw [if_neg (fun q => c3 (cf.inj hi ho (Option.some.inj q)))]
          by_cases c4 : 0 ≤ d.toInt ∧ d.toInt ≤ (mi S xb 0).toInt
          · rw [if_neg (fun q => q c4)]
            rcases (p4 i hi).2.2.2.2.2.2.2.2.2 with ⟨e1, e2⟩ | ⟨q, q1, q2, q3, q4, q5⟩
            · rw [if_pos e2]
              by_cases c5 : mgd (Mi S (xb + 22)) d o
              · rw [if_neg (fun q => q c5), if_pos (Or.inr (Or.inr (Or.inr (Or.inl c5))))]
              · rw [if_pos c5]
                by_cases c6 : ∃ z, z < nf ∧ 0 ≤ z ∧ tk (Mi S (xb + 22)) i d z
                · rw [if_pos c6, if_neg (by decide), if_pos (Or.inr (Or.inr (Or.inr (Or.inr c6))))]
                · rw [if_neg c6, if_pos rfl, if_neg (by
                    rintro (q | q | q | q | q)
                    · exact c3 q
                    · exact q c4
                    · exact q e1
                    · exact c5 q
                    · exact c6 q), putR_s hk]
                  simp only [Option.bind_some]
                  rw [putI_s (show kd (setR S (fa i) 2 (some (fa o))) (fa i) = 5 from hk)]
                  simp only [Option.bind_some]
            · have hm : Mi S (xb + 22) 2 i ≠ -1 := by
                rw [q2, Ne, eq_i, nI_toInt (by omega)]; simp only [Int32.reduceToInt]; omega
              rw [if_neg (by rw [q3]; simp), if_pos (Or.inr (Or.inr (Or.inl hm)))]
          · rw [if_pos c4, if_pos (Or.inr (Or.inl c4))]
      have hM : ∀ T : St, MOK T (xb + 22) → mi T (xb + 22) 1 = nI nf → (∀ o, o < 60 → Mi T (xb + 22) o = Mi S (xb + 22) o) → f_X12_merge T (xb + 22) (nI i) (nI o) d = some (if i = o ∨ ¬ (0 ≤ d.toInt ∧ d.toInt ≤ (mi S xb 0).toInt) ∨ Mi S (xb + 22) 2 i ≠ -1 ∨ mgd (Mi S (xb + 22)) d o ∨ (∃ z, z < nf ∧ 0 ≤ z ∧ tk (Mi S (xb + 22)) i d z) then (0, T) else (1, setI (setI T (xb + 22 + 2) i (nI o)) (xb + 22 + 3) i d)) := by
        intro T mT hT eT
        have e2 := eT 2 (by omega)
        have e3 := eT 3 (by omega)
        have e00 : mi T (xb + 22) 0 = mi S xb 0 := (congrFun (eT 0 (by omega)) 0).trans e0.symm
        unfold f_X12_merge
        have hi8 : i < 8 := by omega
        simp only [mV mT, M_isFirm mT hT (by omega) hi, M_isFirm mT hT (by omega) ho, Option.bind_some, M_isPast mT, i01, e00, mR_mergedInto mT, mL_mergedInto mT hi8, M_isMerged mT d (show o < 8 by omega)]
        have hT := M_took (g := o) mT hT p2 hi d nf 0 FU (by omega) (by unfold FU; omega)
        rw [nI_0] at hT
        rw [hT]
        rw [if_neg (by decide), if_neg (by decide)]
        simp only [Option.bind_some, e2, e3]
        rw [show mi T (xb + 22 + 2) i = Mi S (xb + 22) 2 i from congrFun e2 i]
        by_cases c3 : i = o
        · rw [if_pos (by rw [c3]), if_pos (Or.inl c3)]
        · rw [if_neg (fun q => c3 ((nI_eq (by omega) (by omega)).mp q))]
          by_cases c4 : 0 ≤ d.toInt ∧ d.toInt ≤ (mi S xb 0).toInt
          · rw [if_neg (fun q => q c4)]
            by_cases c7 : Mi S (xb + 22) 2 i = -1
            · rw [if_pos c7]
              by_cases c5 : mgd (Mi S (xb + 22)) d o
              · rw [if_neg (fun q => q c5), if_pos (Or.inr (Or.inr (Or.inr (Or.inl c5))))]
              · rw [if_pos c5]
                congr 1
                have htk : ∀ z, tk (Mi T (xb + 22)) i d z ↔ tk (Mi S (xb + 22)) i d z := fun z => by unfold tk; rw [e2, e3]
                refine ifc ⟨fun ⟨z, z1, z2, z3⟩ => Or.inr (Or.inr (Or.inr (Or.inr ⟨z, z1, z2, (htk z).mp z3⟩))), ?_⟩
                rintro (q | q | q | q | q)
                · exact absurd q c3
                · exact absurd c4 q
                · exact absurd c7 q
                · exact absurd q c5
                · obtain ⟨z, z1, z2, z3⟩ := q
                  exact ⟨z, z1, z2, (htk z).mpr z3⟩
            · rw [if_neg c7, if_pos (Or.inr (Or.inr (Or.inl c7)))]
          · rw [if_pos c4, if_pos (Or.inr (Or.inl c4))]
      rw [hX]
      by_cases c9 : i = o ∨ ¬ (0 ≤ d.toInt ∧ d.toInt ≤ (mi S xb 0).toInt) ∨ Mi S (xb + 22) 2 i ≠ -1 ∨ mgd (Mi S (xb + 22)) d o ∨ (∃ z, z < nf ∧ 0 ≤ z ∧ tk (Mi S (xb + 22)) i d z)
      · rw [if_pos c9]
        refine ⟨_, _, rfl, S, ?_, h.le⟩
        rw [hM S m p1 (fun _ _ => rfl), if_pos c9]
      · rw [if_neg c9]
        have F : Fr (fun a => a = fa i) S (setI (setR S (fa i) 2 (some (fa o))) (fa i) 3 d) := ((Fr.rf (fun a => a = fa i) S).sR (a := fa i) 2 _ (by omega) (fun _ => rfl)).sI (a := fa i) 3 _ (by show kd S (fa i) ≤ 20; omega) (fun _ => rfl)
        have hP : ∀ a, a = fa i → kd S a = 5 := fun a e => by rw [e]; exact hk
        have o2 := (p4 i hi).2.1
        have bU : BS (setI (setR S (fa i) 2 (some (fa o))) (fa i) 3 d) xb := by
          obtain ⟨w, dd, x, m, t, n⟩ := id b
          refine ⟨F.2.1 w, dd.fr w F (fun a _ ha => ?_) (fun a ha => ?_), x.fr w F ?_ ?_ ?_ ?_, m.fr w F ?_, t.fr w F, n⟩
          · rw [mr_setI_, mr_setR_i, if_neg (fun q => by rw [q.1, hk] at ha; omega)]
          · show kd S a ≠ 0
            have : kd S a = 99 := w a ha
            omega
          all_goals
            funext z
            rw [mr_setI_, mr_setR_i, if_neg (by omega)]
        have eT : ∀ o', o' < 60 → Mi (setI (setR S (fa i) 2 (some (fa o))) (fa i) 3 d) (xb + 22) o' = Mi S (xb + 22) o' := fun o' ho' => (Fr_m_of b F (fun a e => by rw [e]; omega) o' ho').1
        have mU := bU.2.2.2.1
        refine ⟨_, _, rfl, setI (setI (setI (setR S (fa i) 2 (some (fa o))) (fa i) 3 d) (xb + 22 + 2) i (nI o)) (xb + 22 + 3) i d, ?_, ?_⟩
        · rw [hM _ mU ((congrFun (eT 0 (by omega)) 1).trans p1) eT, if_neg c9]
        · have q1 : ¬ i = o := fun q => c9 (Or.inl q)
          have q3 : ¬ Mi S (xb + 22) 2 i ≠ -1 := fun q => c9 (Or.inr (Or.inr (Or.inl q)))
          have q4 : ¬ mgd (Mi S (xb + 22)) d o := fun q => c9 (Or.inr (Or.inr (Or.inr (Or.inl q))))
          have q5 : ¬ ∃ z, z < nf ∧ 0 ≤ z ∧ tk (Mi S (xb + 22)) i d z := fun q => c9 (Or.inr (Or.inr (Or.inr (Or.inr q))))
          refine h.fin (M' := up2 (up2 (Mi S (xb + 22)) 2 i (nI o)) 3 i d) (L' := Ml S (xb + 22)) (JX.mk bU (c0.gk b F hP (by decide) ⟨rfl, rfl, rfl⟩) (ct.gk b F hP (by decide) (by rw [xb_same b F hP (by decide)]) rfl rfl) (cy.gk b F hP (by decide) rfl) ?_ (cp.gk b F hP (by decide) rfl rfl rfl rfl rfl rfl rfl) (cn.gk cp b F hP (by decide) rfl rfl) (ca'.gk b F hP (by decide) rfl (Int.le_refl _) rfl rfl rfl rfl rfl rfl rfl rfl) (ce.gk b F hP (by decide) (by rw [xb_same b F hP (by decide)]) (fun _ _ => Or.inl (by decide)) rfl rfl rfl rfl rfl rfl rfl) (cc.gk b F hP (by decide) rfl (fun _ _ z => z) rfl rfl rfl rfl rfl rfl rfl) (cl.gk b F hP (by decide) rfl rfl rfl rfl rfl rfl rfl rfl rfl rfl)) rfl (by show nx S ≤ _; omega) (by show sl S ≤ _; omega) ((Fr_m mU (by omega) i _).m2 (Fr_m (mU.si _ _ _) (by omega) i _)) rfl rfl rfl ?_ (PeqL_of (fun o' ho' => (Fr_m_of b F (fun a e => by rw [e]; omega) o' ho').2))
          · refine ⟨p1, p2, p3.gk b.1 F hP (by decide), fun z hz => ?_, p5⟩
            by_cases ez : z = i
            · subst ez
              obtain ⟨o1, o2, o3, o4, o5, o6, o7, o8, o9, o10⟩ := p4 z hz
              refine ⟨o1, o2, ?_, ?_, o5, ?_, o7, o8, fun y hy => ?_, Or.inr ⟨o, ho, ?_, ?_, ?_, ?_⟩⟩
              · rw [mi_setI_i, if_neg (by omega)]; exact o3
              · rw [mi_setI_i, if_neg (by omega)]; exact o4
              · rw [mr_setI_, mr_setR_i, if_neg (by omega)]; exact o6
              · rw [mi_setI_i, if_neg (by omega)]; exact o9 y hy
              · rw [up2_ne _ (by decide), up2_eq]
              · rw [mr_setI_, mr_setR_i, if_pos ⟨rfl, rfl⟩]
              · rw [mi_setI_i, if_pos ⟨rfl, rfl⟩, up2_eq]
              · rw [up2_ne _ (by decide), up2_nk _ (fun e => q1 e.symm), up2_eq, up2_nk _ (fun e => q1 e.symm), up2_ne _ (by decide)]
                intro hm
                have : ¬ (Mi S (xb + 22) 3 o).toInt ≤ d.toInt := fun q => q4 ⟨hm, q⟩
                omega
            · have hne : fa z ≠ fa i := fun q => ez (cf.inj hz hi q)
              have hne2 : fa z + 1 ≠ fa i := fun q => by have := (p4 z hz).2.2.2.2.2.2.1; rw [q] at this; omega
              obtain ⟨o1, o2, o3, o4, o5, o6, o7, o8, o9, o10⟩ := (p4 z hz).go (M' := Mi S (xb + 22)) b.1 F hne hne2 rfl rfl rfl rfl
              refine ⟨o1, o2, o3, o4, o5, o6, o7, o8, o9, ?_⟩
              rw [up2_ne _ (by decide), up2_nk _ ez]
              rcases o10 with c | ⟨y, y1, y2, y3, y4, y5⟩
              · exact Or.inl c
              · refine Or.inr ⟨y, y1, y2, y3, by rw [up2_nk _ ez, up2_ne _ (by decide)]; exact y4, ?_⟩
                rw [up2_nk _ ez]
                by_cases ey : y = i
                · subst ey
                  rw [up2_eq, up2_eq]
                  intro _
                  have : ¬ (d.toInt ≤ (Mi S (xb + 22) 3 z).toInt) := fun q => q5 ⟨z, hz, by omega, y2, q⟩
                  show (Mi S (xb + 22) 3 z).toInt < _
                  omega
                · rw [up2_nk _ ey, up2_nk _ ey]
                  exact y5
          · rw [Mi_setI, Mi_setI]
            exact ((PeqI_of eT).up 2 i _).up 3 i _
    · refine ⟨0, S, ?_, S, ?_, h.le⟩
      · unfold f_X11_merge
        simp only [xV x, X_firmAt x p3 hk hi, X_firmAt_n x p3 c2, Option.bind_some, if_neg (show ¬ (some (fa i) = none) by simp), if_true]
      · unfold f_X12_merge
        simp only [mV m, M_isFirm m p1 (by omega) hi, M_isFirm_n m p1 (by omega) c2, Option.bind_some, if_true]
        rw [if_neg (by decide)]
  · refine ⟨0, S, ?_, S, ?_, h.le⟩
    · unfold f_X11_merge
      rcases ixc g (n := nf) (by omega) with ⟨o, ho, rfl⟩ | c2
      · simp only [xV x, X_firmAt_n x p3 c1, X_firmAt x p3 (p4 o ho).1 ho, Option.bind_some, if_true]
      · simp only [xV x, X_firmAt_n x p3 c1, X_firmAt_n x p3 c2, Option.bind_some, if_true]
    · unfold f_X12_merge
      simp only [mV m, M_isFirm_n m p1 (by omega) c1, Option.bind_some, if_true]
