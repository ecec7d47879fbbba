theorem op_firm {S : St} {xb k : Nat} (h : JJ S xb (k + 1)) (s : Int32) : ∃ r S1, f_X11_firm S xb s = some (r, S1) ∧ ∃ S2, f_X12_firm S1 (xb + 22) s = some (r, S2) ∧ JJ S2 xb k := by
  obtain ⟨⟨g, j⟩, rm1, rm2⟩ := id h
  obtain ⟨nf, fa, np, pa, na, aa, ne, ea, il, nc, ca, rfl, b, c0, ct, cy, cf, cp, cn, ca', ce, cc, cl⟩ := j.op
  have x := b.2.2.1
  have m := b.2.2.2.1
  obtain ⟨p1, p2, p3, p4, p5⟩ := id cf
  have p1 : mi S (xb + 22) 1 = nI nf := p1
  unfold f_X11_firm
  simp only [X_isWithin, i01, Int32.reduceToInt, Option.bind_some, xR_firms x, xV_firms x, L_size p3]
  rcases ixc s (n := 4) (by decide) with ⟨i, hi, rfl⟩ | c1
  · have tI := nI_toInt (n := i) (by omega)
    rw [if_neg (by rw [tI]; omega)]
    by_cases c2 : nf = 8
    · rw [if_neg (by rw [c2]; decide)]
      refine ⟨_, _, rfl, S, ?_, h.le⟩
      unfold f_X12_firm
      simp only [M_isState, i01, mI m, p1, Option.bind_some]
      rw [if_neg (by rw [tI]; omega), if_pos (by rw [c2]; rfl)]
    · rw [if_pos (by rw [lt_i, nI_toInt (by omega)]; simp only [Int32.reduceToInt]; omega)]
      have hf5 : nfl 5 = 5 := rfl
      rw [newO_s (by omega) (by rw [hf5]; omega)]
      simp only [Option.bind_some]
      have w := b.1
      have F1 : Fr (fun _ => False) S (mk0 S (nfl 5) 5 0) := Fr_mk0 S _ 5 0
      have w1 := F1.2.1 w
      have x1 : XOK (mk0 S (nfl 5) 5 0) xb := x.fr w F1 (by funext z; rw [mr_mk0, if_neg (by have := b.2.2.2.2.2; omega)]) (by funext z; rw [mr_mk0, if_neg (by have := b.2.2.2.2.2; omega)]) (by funext z; rw [mr_mk0, if_neg (by have := b.2.2.2.2.2; omega)]) (by funext z; rw [mr_mk0, if_neg (by have := b.2.2.2.2.2; omega)])
      have l1 : LI (mk0 S (nfl 5) 5 0) (xb + 1) nf fa := p3.go w F1 (fun _ e => e.elim)
      have k1 : kd (mk0 S (nfl 5) 5 0) (nx S) = 5 := by rw [kd_mk0, if_pos rfl]
      simp only [xR_firms x1, xV_firms x1, L_size l1, rcv_s k1, Option.bind_some]
      obtain ⟨T, g1, g2, g3, g4, g5, g6, g7, g8, g9, g10, g11, g12, g13⟩ := X4_init (nI nf) (nI i) k1 (by rw [nx_mk0]; omega) (by rw [nx_mk0, cap_mk0]; omega) (by rw [sl_mk0, hf5]; omega)
      rw [g1]
      simp only [Option.bind_some]
      rw [nx_mk0] at g3 g4 g6 g9 g10 g13
      rw [sl_mk0, hf5] at g11
      have F2 : Fr (fun _ => False) S T := F1.tr g12 (fun a h1 h2 => by omega)
      have kT : ∀ a, nx S ≤ a → kd T a ≠ 0 := fun a ha => by
        by_cases e1 : a = nx S
        · rw [e1, g2]; omega
        · by_cases e2 : a = nx S + 1
          · rw [e2, g3]; omega
          · rw [F2.2.1 w a (by omega)]; omega
      have bT : BS T xb := b.al F2 kT
      have jT := j.al F2 bT
      obtain ⟨-, c0T, ctT, cyT, cfT, cpT, cnT, caT, ceT, ccT, clT⟩ := jT.un
      have xT := bT.2.2.1
      have lT : LI T (xb + 1) nf fa := cfT.2.2.1
      simp only [xR_firms xT, xV_firms xT, Option.bind_some]
      obtain ⟨U, u1, u2, u3, u4, u5, u6, u7, u8⟩ := L_add lT bT.1 (v := nx S) (by omega) (by omega) (by rw [F2.capE]; omega) (by omega)
      rw [u1]
      simp only [Option.bind_some]
      have hl := xK_firms xT
      have n1 : nx S < nx T := by omega
      have hP : ∀ a, (a = xb + 1 ∨ mr T (xb + 1) 1 = some a ∧ kd T a = 20) → kd T a = 0 ∨ kd T a = 20 := fun a e => by
        rcases e with e | e
        · left; rw [e]; exact hl
        · right; exact e.2
      have uA := u3.at bT.1 g2 (by omega) (fun c => by have := hP _ c; omega)
      have uB := u3.at bT.1 g3 (by omega) (fun c => by have := hP _ c; omega)
      rw [getI_s (show kd U (nx S) = 5 by rw [uA.1, g2]), uA.2.2.1, g7]
      refine ⟨_, _, rfl, ?_⟩
      have bU := bT.ga hl u3 (u6 bT.2.1)
      have mU := bU.2.2.2.1
      have eU : ∀ o, o < 60 → Mi U (xb + 22) o = Mi S (xb + 22) o ∧ Ml U (xb + 22) o = Ml S (xb + 22) o := fun o ho => by
        have h1 := Pl_m bT hl u3 o ho
        have h2 := Fr_m_of b F2 (fun _ c => c.elim) o ho
        exact ⟨h1.1.trans h2.1, h1.2.trans h2.2⟩
      have pU : mi U (xb + 22) 1 = nI nf := by
        have := congrFun (eU 0 (by omega)).1 1
        exact this.trans p1
      refine ⟨setI (setI (setI U (xb + 22 + 1) nf (nI i)) (xb + 22 + 2) nf (-1)) (xb + 22) 1 (nI nf + 1), ?_, ?_⟩
      · have m1 := mU.si (xb + 22 + 1) nf (nI i)
        have m2 := m1.si (xb + 22 + 2) nf (-1)
        have m3 := m2.si (xb + 22) 1 (nI nf + 1)
        unfold f_X12_firm
        simp only [M_isState, i01, mI mU, pU, Option.bind_some]
        rw [if_neg (by rw [tI]; omega), if_neg (by rw [show (8 : Int32) = nI 8 from rfl, nI_eq (by omega) (by omega)]; exact c2)]
        have hf8 : nf < 8 := by omega
        have e1 : mi (setI U (xb + 22 + 1) nf (nI i)) (xb + 22) 1 = nI nf := by rw [mi_setI_i, if_neg (by omega), pU]
        have e2 : mi (setI (setI U (xb + 22 + 1) nf (nI i)) (xb + 22 + 2) nf (-1)) (xb + 22) 1 = nI nf := by rw [mi_setI_i, if_neg (by omega), e1]
        simp only [mR_firmState mU, mS_firmState mU hf8, nrw15, Option.bind_some, mR_mergedInto m1, mI m1, e1, mS_mergedInto m1 hf8, mI m2, e2, mP m2, mI m3]
        rw [mi_setI_i, if_pos ⟨rfl, rfl⟩, nI_1, nI_pred]
      · have M3 : PeqI (up2 (up2 (up2 (Mi S (xb + 22)) 1 nf (nI i)) 2 nf (-1)) 0 1 (nI (nf + 1))) (Mi (setI (setI (setI U (xb + 22 + 1) nf (nI i)) (xb + 22 + 2) nf (-1)) (xb + 22) 1 (nI nf + 1)) (xb + 22)) := by
          rw [Mi_setI0, Mi_setI, Mi_setI, nI_1]
          exact (((PeqI_of (fun o ho => (eU o ho).1)).up 1 nf _).up 2 nf _).up 0 1 _
        have caU : cap U = cap S := by rw [u3.capE, F2.capE]
        refine h.fin (M' := up2 (up2 (up2 (Mi S (xb + 22)) 1 nf (nI i)) 2 nf (-1)) 0 1 (nI (nf + 1))) (L' := Ml S (xb + 22)) (g := ((nf + 1, up1 fa nf (nx S)), (np, pa), (na, aa), (ne, ea, il), (nc, ca))) (JX.mk bU (c0T.ga bT hl u3 ⟨rfl, rfl, rfl⟩) (ctT.ga bT hl u3 rfl rfl) (cyT.ga bT hl u3 rfl) ?_ (cpT.ga bT hl u3 (by omega) rfl rfl rfl rfl rfl rfl rfl) (cnT.ga cpT bT hl u3 rfl rfl) ?_ (ceT.ga bT hl u3 (fun a ha => by have := (caT.2.2.2 a ha).2.1; omega) rfl rfl rfl rfl rfl rfl rfl) (ccT.ga bT hl u3 (by omega) rfl (fun _ _ z => z) rfl rfl rfl rfl rfl rfl rfl) (clT.ga bT hl u3 rfl rfl rfl rfl rfl rfl rfl rfl rfl rfl)) caU (by omega) (by omega) (((Fr_m mU (by omega) nf _).m2 (Fr_m (mU.si _ _ _) (by omega) nf _)).m2 (Fr_m0 ((mU.si _ _ _).si _ _ _) 1 _)) rfl rfl rfl M3 (PeqL_of (fun o ho => (eU o ho).2))
        · refine ⟨by rw [up2_eq], by omega, u2, fun z hz => ?_, fun z y z1 z2 z3 => ?_⟩
          · by_cases ez : z = nf
            · subst ez
              unfold FO
              rw [up1_eq]
              refine ⟨by rw [uA.1, g2], by have := b.2.2.2.2.2; omega, by rw [uA.2.2.1, g7], by rw [uA.2.2.1, g8, up2_ne _ (by decide), up2_ne _ (by decide), up2_eq], ⟨i, hi, by rw [up2_ne _ (by decide), up2_ne _ (by decide), up2_eq]⟩, by rw [uA.2.2.2.2, g6], by rw [uB.1, g3], by rw [uB.2.1, g4], fun y hy => ?_, Or.inl ⟨by rw [up2_ne _ (by decide), up2_eq], by rw [uA.2.2.2.2, g5]⟩⟩
              rw [uB.2.2.1, g9 y hy]
              have e5 : Mi S (xb + 22) 56 (20 * z + y) = -1 := p5 z y (by omega) (by omega) hy
              have e6 : up2 (up2 (up2 (Mi S (xb + 22)) 1 z (nI i)) 2 z (-1)) 0 1 (nI (z + 1)) 56 (20 * z + y) = -1 := e5
              rw [e6]
              exact ⟨rfl, by decide, by decide⟩
            · have hz' : z < nf := by omega
              have o1 := cfT.2.2.2.1 z hz'
              have o2 : FO U xb (Mi S (xb + 22)) nf fa z := o1.go bT.1 u3 (fun c => by have := hP _ c; have := o1.1; omega) (fun c => by have := hP _ c; have := o1.2.2.2.2.2.2.1; omega) rfl rfl rfl rfl
              exact o2.ext hz' (by omega) (fun y hy => up1_ne _ (by omega)) (fun y hy => by rw [up2_ne _ (by decide), up2_ne _ (by decide), up2_nk _ (by omega)]) (fun y hy => by rw [up2_ne _ (by decide), up2_nk _ (by omega), up2_ne _ (by decide)]) (fun y hy => rfl) rfl
          · exact p5 z y (by omega) z2 z3
        · exact (caT.ga (M' := up2 (up2 (up2 (Mi S (xb + 22)) 1 nf (nI i)) 2 nf (-1)) 0 1 (nI (nf + 1))) (L' := Ml S (xb + 22)) bT hl u3 (by omega) rfl (Int.le_refl _) rfl rfl rfl rfl rfl rfl rfl rfl).ext (by show nf ≤ nf + 1; omega) (fun z hz => up1_ne _ (by change z < nf at hz; omega)) (Nat.le_refl _) (fun _ _ => rfl)
  · rw [if_pos (by omega)]
    refine ⟨_, _, rfl, S, ?_, h.le⟩
    unfold f_X12_firm
    simp only [M_isState, i01, Option.bind_some]
    rw [if_pos (by omega)]
