theorem op_account {S : St} {xb k : Nat} (h : JJ S xb (k + 1)) (f kk p d : Int32) : ∃ r S1, f_X11_account S xb f kk p d = some (r, S1) ∧ ∃ S2, f_X12_account S1 (xb + 22) f kk p d = some (r, S2) ∧ JJ S2 xb k := by
  obtain ⟨⟨g', j⟩, rm1, rm2⟩ := id h
  obtain ⟨nf, fa, np, pa, na, aa, ne, ea, il, nc, ca, rfl, b, c0, ct, cy, cf, cp, cn, ca', ce, cc, cl⟩ := j.op
  have x := b.2.2.1
  have m := b.2.2.2.1
  obtain ⟨s1, s2, s3, s4, s5⟩ := id cf
  obtain ⟨p1, p2, p3, p4⟩ := id cp
  obtain ⟨a1, a2, a3, a4⟩ := id ca'
  have s1 : mi S (xb + 22) 1 = nI nf := s1
  have p1 : mi S (xb + 22) 2 = nI np := p1
  have a1 : mi S (xb + 22) 3 = nI na := a1
  have e0 : mi S xb 0 = mi S (xb + 22) 0 := c0.1
  rcases ixc f (n := nf) (by omega) with ⟨i, hi, rfl⟩ | c1
  · have hk := (s4 i hi).1
    rcases ixc p (n := np) (by omega) with ⟨o, ho, rfl⟩ | c2
    · have hko := (p4 o ho).1
      by_cases cOK : (0 ≤ kk.toInt ∧ kk.toInt < 4) ∧ (0 ≤ d.toInt ∧ d.toInt ≤ (mi S xb 0).toInt) ∧ ¬ mgd (Mi S (xb + 22)) d i ∧ na < 40
      · obtain ⟨d1, d2, d3, d4⟩ := cOK
        unfold f_X11_account
        simp only [xV x, X_firmAt x s3 hk hi, X_personAt x p3 hko ho, Option.bind_some, if_neg (show ¬ (some (fa i) = none) by simp), if_neg (show ¬ (some (pa o) = none) by simp), X_isPast x, rcv_s hk, X_isMergedBy cf hi, xR_accounts x, xV_accounts x, L_size a3, X_isWithin, i01, Int32.reduceToInt]
        rw [if_neg (fun q => q d1), if_neg (fun q => q d2), if_pos d3, if_pos (by rw [lt_i, nI_toInt (by omega)]; simp only [Int32.reduceToInt]; omega)]
        have hf1 : nfl 1 = 11 := rfl
        rw [newO_s (by omega) (by rw [hf1]; omega)]
        simp only [Option.bind_some]
        have w := b.1
        have F1 : Fr (fun _ => False) S (mk0 S (nfl 1) 1 0) := Fr_mk0 S _ 1 0
        have b1 : BS (mk0 S (nfl 1) 1 0) xb := b.al F1 (fun a ha => by
          rw [kd_mk0]
          by_cases e : a = nx S
          · rw [if_pos e]; omega
          · rw [if_neg e, w a ha]; omega)
        have x1 := b1.2.2.1
        have l1 : LI (mk0 S (nfl 1) 1 0) (xb + 3) na aa := a3.go w F1 (fun _ e => e.elim)
        have k1 : kd (mk0 S (nfl 1) 1 0) (nx S) = 1 := by rw [kd_mk0, if_pos rfl]
        simp only [xR_accounts x1, xV_accounts x1, L_size l1, rcv_s k1, Option.bind_some]
        obtain ⟨T, g1, g2, g3, g4, g5, g6, g7, g8, g9, g10, g11, g12, g13, g14, g15, g16⟩ := X0_init (nI na) (some (fa i)) kk (some (pa o)) d k1 (by rw [nx_mk0]; omega) (by rw [nx_mk0, cap_mk0]; omega) (by rw [sl_mk0, hf1]; omega)
        rw [g1]
        simp only [Option.bind_some]
        rw [nx_mk0] at g8 g12 g13 g14
        rw [sl_mk0, hf1] at g15
        rw [emp_mk0] at g12
        have F2 : Fr (fun _ => False) S T := F1.tr g16 (fun a h1 h2 => by omega)
        have kN : kd T (nx S) = 1 := by rw [g2, if_neg (by rw [nx_mk0]; omega), k1]
        have kL : kd T (nx S + 1) = 0 := by rw [g2, if_pos (by rw [nx_mk0])]
        have bT : BS T xb := b.al2 F2 (fun a ha hz => by
          have : a = nx S + 1 := by
            rw [g2] at hz
            by_cases e : a = nx (mk0 S (nfl 1) 1 0)
            · rw [e, nx_mk0]
            · rw [if_neg e, kd_mk0] at hz
              by_cases e2 : a = nx S
              · rw [if_pos e2] at hz; omega
              · rw [if_neg e2, w a ha] at hz; omega
          rw [this, g12, F2.empE])
        have jT := j.al F2 bT
        obtain ⟨-, c0T, ctT, cyT, cfT, cpT, cnT, caT, ceT, ccT, clT⟩ := jT.un
        have xT := bT.2.2.1
        have lT : LI T (xb + 3) na aa := caT.2.2.1
        simp only [xR_accounts xT, xV_accounts xT, Option.bind_some]
        obtain ⟨U, u1, u2, u3, u4, u5, u6, u7, u8⟩ := L_add lT bT.1 (v := nx S) (by omega) (by omega) (by rw [F2.capE]; omega) (by omega)
        have hl := xK_accounts xT
        have bU := bT.ga hl u3 (u6 bT.2.1)
        have xU := bU.2.2.1
        have mU := bU.2.2.2.1
        have hP : ∀ a, (a = xb + 3 ∨ mr T (xb + 3) 1 = some a ∧ kd T a = 20) → kd T a = 0 ∧ a = xb + 3 ∨ kd T a = 20 := fun a e => by
          rcases e with e | e
          · left; exact ⟨by rw [e]; exact hl, e⟩
          · right; exact e.2
        have hnx := b.2.2.2.2.2
        have uA := u3.at bT.1 kN (by omega) (fun c => by have := hP _ c; omega)
        have uB : LI U (nx S + 1) 0 (fun k => ea (([] : List Nat).getD k 0)) := by
          have lN : LI T (nx S + 1) 0 (fun k => ea (([] : List Nat).getD k 0)) := ⟨kL, g13, by omega, ⟨emp T, by rw [g12, F2.empE], Or.inl ⟨rfl, rfl, bT.2.2.2.2.1.1⟩, fun i hi => by omega⟩, fun i hi => by omega⟩
          refine lN.go bT.1 u3 (fun a c => ⟨fun e => ?_, fun e => ?_⟩)
          · have := hP _ c; rw [e] at this; omega
          · rw [g12] at e
            have := bT.2.2.2.2.1.1
            rw [← F2.empE] at e
            cases e.1
            omega
        simp only [u1, Option.bind_some]
        rw [getI_s (show kd U (nx S) = 1 by rw [uA.1, kN]), uA.2.2.1, g3]
        refine ⟨_, _, rfl, ?_⟩
        have eU : ∀ o, o < 60 → Mi U (xb + 22) o = Mi S (xb + 22) o ∧ Ml U (xb + 22) o = Ml S (xb + 22) o := fun o ho => by
          have h1 := Pl_m bT hl u3 o ho
          have h2 := Fr_m_of b F2 (fun _ c => c.elim) o ho
          exact ⟨h1.1.trans h2.1, h1.2.trans h2.2⟩
        have f0 : ∀ z, mi U (xb + 22) z = mi S (xb + 22) z := fun z => congrFun (eU 0 (by omega)).1 z
        refine ⟨setI (setI (setI (setI (setI (setI U (xb + 22 + 10) na (nI i)) (xb + 22 + 11) na kk) (xb + 22 + 12) na (nI o)) (xb + 22 + 13) na d) (xb + 22 + 39) na (-1)) (xb + 22) 3 (nI na + 1), ?_, ?_⟩
        · have hc40 : na < 40 := d4
          have m1 := mU.si (xb + 22 + 10) na (nI i)
          have e1 : mi (setI U (xb + 22 + 10) na (nI i)) (xb + 22) 3 = nI na := by rw [mi_setI_i, if_neg (by omega), f0, a1]
          have m2 := m1.si (xb + 22 + 11) na kk
          have e2 : mi (setI (setI U (xb + 22 + 10) na (nI i)) (xb + 22 + 11) na kk) (xb + 22) 3 = nI na := by rw [mi_setI_i, if_neg (by omega), e1]
          have m3 := m2.si (xb + 22 + 12) na (nI o)
          have e3 : mi (setI (setI (setI U (xb + 22 + 10) na (nI i)) (xb + 22 + 11) na kk) (xb + 22 + 12) na (nI o)) (xb + 22) 3 = nI na := by rw [mi_setI_i, if_neg (by omega), e2]
          have m4 := m3.si (xb + 22 + 13) na d
          have e4 : mi (setI (setI (setI (setI U (xb + 22 + 10) na (nI i)) (xb + 22 + 11) na kk) (xb + 22 + 12) na (nI o)) (xb + 22 + 13) na d) (xb + 22) 3 = nI na := by rw [mi_setI_i, if_neg (by omega), e3]
          have m5 := m4.si (xb + 22 + 39) na (-1)
          have e5 : mi (setI (setI (setI (setI (setI U (xb + 22 + 10) na (nI i)) (xb + 22 + 11) na kk) (xb + 22 + 12) na (nI o)) (xb + 22 + 13) na d) (xb + 22 + 39) na (-1)) (xb + 22) 3 = nI na := by rw [mi_setI_i, if_neg (by omega), e4]
          have m6 := m5.si (xb + 22) 3 (nI na + 1)
          have d3' : ¬ mgd (Mi U (xb + 22)) d i := by
            unfold mgd
            rw [(eU 2 (by omega)).1, (eU 3 (by omega)).1]; exact d3
          unfold f_X12_account
          simp only [mV mU, M_isFirm mU ((f0 1).trans s1) (by omega) hi, M_isPerson mU ((f0 2).trans p1) (by omega) ho, M_isPast mU, M_isMerged mU d (show i < 8 by omega), Option.bind_some, M_isIn, i01, Int32.reduceToInt, mI mU, f0, a1]
          rw [if_neg (by decide), if_neg (by omega), if_neg (by decide), if_neg (by rw [← e0]; exact fun q => q d2), if_pos d3', if_neg (by rw [show (40 : Int32) = nI 40 from rfl, nI_eq (by omega) (by omega)]; omega)]
          simp only [mR_accountFirm mU, mS_accountFirm mU hc40, mR_accountKind m1, mI m1, e1, mS_accountKind m1 hc40, mR_owner m2, mI m2, e2, mS_owner m2 hc40, mR_began m3, mI m3, e3, mS_began m3 hc40, mR_heldBy m4, mI m4, e4, mS_heldBy m4 hc40, nrw15, Option.bind_some, mI m5, e5, mP m5, mI m6]
          rw [mi_setI_i, if_pos ⟨rfl, rfl⟩, nI_1, nI_pred]
        · have M3 : PeqI (up2 (up2 (up2 (up2 (up2 (up2 (Mi S (xb + 22)) 10 na (nI i)) 11 na kk) 12 na (nI o)) 13 na d) 39 na (-1)) 0 3 (nI (na + 1))) (Mi (setI (setI (setI (setI (setI (setI U (xb + 22 + 10) na (nI i)) (xb + 22 + 11) na kk) (xb + 22 + 12) na (nI o)) (xb + 22 + 13) na d) (xb + 22 + 39) na (-1)) (xb + 22) 3 (nI na + 1)) (xb + 22)) := by
            rw [Mi_setI0, Mi_setI, Mi_setI, Mi_setI, Mi_setI, Mi_setI, nI_1]
            exact ((((((PeqI_of (fun o ho => (eU o ho).1)).up 10 na _).up 11 na _).up 12 na _).up 13 na _).up 39 na _).up 0 3 _
          have caU : cap U = cap S := by rw [u3.capE, F2.capE]
          refine h.fin (M' := up2 (up2 (up2 (up2 (up2 (up2 (Mi S (xb + 22)) 10 na (nI i)) 11 na kk) 12 na (nI o)) 13 na d) 39 na (-1)) 0 3 (nI (na + 1))) (L' := Ml S (xb + 22)) (g := ((nf, fa), (np, pa), (na + 1, up1 aa na (nx S)), (ne, ea, upL il na []), (nc, ca))) (JX.mk bU (c0T.ga bT hl u3 ⟨rfl, rfl, rfl⟩) (ctT.ga bT hl u3 rfl rfl) (cyT.ga bT hl u3 rfl) (cfT.ga bT hl u3 (by omega) rfl rfl rfl rfl rfl) (cpT.ga bT hl u3 (by omega) rfl rfl rfl rfl rfl rfl rfl) (cnT.ga cpT bT hl u3 rfl rfl) ?_ ?_ ?_ (clT.ga bT hl u3 rfl rfl rfl rfl rfl rfl rfl rfl rfl rfl)) caU (by omega) (by omega) ((((((Fr_m mU (by omega) na _).m2 (Fr_m (mU.si _ _ _) (by omega) na _)).m2 (Fr_m ((mU.si _ _ _).si _ _ _) (by omega) na _)).m2 (Fr_m (((mU.si _ _ _).si _ _ _).si _ _ _) (by omega) na _)).m2 (Fr_m ((((mU.si _ _ _).si _ _ _).si _ _ _).si _ _ _) (by omega) na _)).m2 (Fr_m0 (((((mU.si _ _ _).si _ _ _).si _ _ _).si _ _ _).si _ _ _) 3 _)) rfl rfl rfl M3 (PeqL_of (fun o ho => (eU o ho).2))
          · refine ⟨rfl, by omega, u2, fun z hz => ?_⟩
            by_cases ez : z = na
            · subst ez
              unfold AO
              rw [up1_eq, uA.1, uA.2.2.1, uA.2.2.2.1, uA.2.2.2.2, g3, g4, g5, g6, g7, g8, g10, g11]
              have v10 : up2 (up2 (up2 (up2 (up2 (up2 (Mi S (xb + 22)) 10 z (nI i)) 11 z kk) 12 z (nI o)) 13 z d) 39 z (-1)) 0 3 (nI (z + 1)) 10 z = nI i := by rw [up2_ne _ (by decide), up2_ne _ (by decide), up2_ne _ (by decide), up2_ne _ (by decide), up2_ne _ (by decide), up2_eq]
              have v11 : up2 (up2 (up2 (up2 (up2 (up2 (Mi S (xb + 22)) 10 z (nI i)) 11 z kk) 12 z (nI o)) 13 z d) 39 z (-1)) 0 3 (nI (z + 1)) 11 z = kk := by rw [up2_ne _ (by decide), up2_ne _ (by decide), up2_ne _ (by decide), up2_ne _ (by decide), up2_eq]
              have v12 : up2 (up2 (up2 (up2 (up2 (up2 (Mi S (xb + 22)) 10 z (nI i)) 11 z kk) 12 z (nI o)) 13 z d) 39 z (-1)) 0 3 (nI (z + 1)) 12 z = nI o := by rw [up2_ne _ (by decide), up2_ne _ (by decide), up2_ne _ (by decide), up2_eq]
              have v13 : up2 (up2 (up2 (up2 (up2 (up2 (Mi S (xb + 22)) 10 z (nI i)) 11 z kk) 12 z (nI o)) 13 z d) 39 z (-1)) 0 3 (nI (z + 1)) 13 z = d := by rw [up2_ne _ (by decide), up2_ne _ (by decide), up2_eq]
              have v39 : up2 (up2 (up2 (up2 (up2 (up2 (Mi S (xb + 22)) 10 z (nI i)) 11 z kk) 12 z (nI o)) 13 z d) 39 z (-1)) 0 3 (nI (z + 1)) 39 z = -1 := by rw [up2_ne _ (by decide), up2_eq]
              rw [v10, v11, v12, v13, v39]
              obtain ⟨t, ht, rfl⟩ := (ixc kk (n := 4) (by decide)).resolve_right (fun q => q d1)
              refine ⟨kN, by omega, rfl, ⟨i, hi, rfl, rfl⟩, rfl, ⟨t, ht, rfl⟩, ⟨o, ho, rfl, rfl⟩, rfl, d2.1, ?_, rfl, rfl, Or.inl ⟨rfl, rfl⟩⟩
              have h1 : (mi S (xb + 22) 0).toInt ≤ 19999 := c0.2.2.1
              have h2 := d2.2
              rw [e0] at h2
              omega
            · have hz' : z < na := by omega
              have o1 := caT.2.2.2 z hz'
              have o2 : AO U xb (Mi S (xb + 22)) (Ml S (xb + 22)) nf fa np pa aa z := o1.go bT.1 u3 (fun c => by have := hP _ c; have := o1.1; omega) (Int.le_refl _) rfl rfl rfl rfl rfl rfl rfl rfl
              unfold AO at o2 ⊢
              have v10 : up2 (up2 (up2 (up2 (up2 (up2 (Mi S (xb + 22)) 10 na (nI i)) 11 na kk) 12 na (nI o)) 13 na d) 39 na (-1)) 0 3 (nI (na + 1)) 10 z = Mi S (xb + 22) 10 z := by rw [up2_ne _ (by decide), up2_ne _ (by decide), up2_ne _ (by decide), up2_ne _ (by decide), up2_ne _ (by decide), up2_nk _ ez]
              have v11 : up2 (up2 (up2 (up2 (up2 (up2 (Mi S (xb + 22)) 10 na (nI i)) 11 na kk) 12 na (nI o)) 13 na d) 39 na (-1)) 0 3 (nI (na + 1)) 11 z = Mi S (xb + 22) 11 z := by rw [up2_ne _ (by decide), up2_ne _ (by decide), up2_ne _ (by decide), up2_ne _ (by decide), up2_nk _ ez, up2_ne _ (by decide)]
              have v12 : up2 (up2 (up2 (up2 (up2 (up2 (Mi S (xb + 22)) 10 na (nI i)) 11 na kk) 12 na (nI o)) 13 na d) 39 na (-1)) 0 3 (nI (na + 1)) 12 z = Mi S (xb + 22) 12 z := by rw [up2_ne _ (by decide), up2_ne _ (by decide), up2_ne _ (by decide), up2_nk _ ez, up2_ne _ (by decide), up2_ne _ (by decide)]
              have v13 : up2 (up2 (up2 (up2 (up2 (up2 (Mi S (xb + 22)) 10 na (nI i)) 11 na kk) 12 na (nI o)) 13 na d) 39 na (-1)) 0 3 (nI (na + 1)) 13 z = Mi S (xb + 22) 13 z := by rw [up2_ne _ (by decide), up2_ne _ (by decide), up2_nk _ ez, up2_ne _ (by decide), up2_ne _ (by decide), up2_ne _ (by decide)]
              have v39 : up2 (up2 (up2 (up2 (up2 (up2 (Mi S (xb + 22)) 10 na (nI i)) 11 na kk) 12 na (nI o)) 13 na d) 39 na (-1)) 0 3 (nI (na + 1)) 39 z = Mi S (xb + 22) 39 z := by rw [up2_ne _ (by decide), up2_nk _ ez, up2_ne _ (by decide), up2_ne _ (by decide), up2_ne _ (by decide), up2_ne _ (by decide)]
              rw [up1_ne _ ez, v10, v11, v12, v13, v39]
              exact o2
          · obtain ⟨t1, t2, t3, t4, t5⟩ := ceT.ga (M' := up2 (up2 (up2 (up2 (up2 (up2 (Mi S (xb + 22)) 10 na (nI i)) 11 na kk) 12 na (nI o)) 13 na d) 39 na (-1)) 0 3 (nI (na + 1))) bT hl u3 (fun a ha => by have := (caT.2.2.2 a ha).2.1; omega) rfl rfl rfl rfl rfl rfl rfl
            refine ⟨t1, t2, t3, fun z hz => ⟨(t4 z hz).1, ?_⟩, fun z hz => ?_⟩
            · obtain ⟨a, ha, e⟩ := (t4 z hz).2
              exact ⟨a, by omega, e⟩
            · by_cases ez : z = na
              · subst ez
                unfold AE
                rw [upL_eq, up1_eq, uA.2.2.1, uA.1, g9]
                refine ⟨uB, ⟨?_, List.Pairwise.nil⟩, rfl, kN, by simp⟩
                have : (List.range ne).filter (fun q => decide ((up2 (up2 (up2 (up2 (up2 (up2 (Mi S (xb + 22)) 10 z (nI i)) 11 z kk) 12 z (nI o)) 13 z d) 39 z (-1)) 0 3 (nI (z + 1))) 14 q = nI z)) = [] := by
                  rw [List.filter_eq_nil_iff]
                  intro q hq
                  rw [List.mem_range] at hq
                  obtain ⟨a, ha, e⟩ := (t4 q hq).2
                  rw [e, decide_eq_true_eq, nI_eq (by omega) (by omega)]
                  change a < z at ha
                  omega
                rw [this]
              · have := t5 z (by show z < na; omega)
                unfold AE at this ⊢
                rw [upL_ne _ ez, up1_ne _ ez]
                exact this
          · have q := ccT.ga (M' := up2 (up2 (up2 (up2 (up2 (up2 (Mi S (xb + 22)) 10 na (nI i)) 11 na kk) 12 na (nI o)) 13 na d) 39 na (-1)) 0 3 (nI (na + 1))) (L' := Ml S (xb + 22)) bT hl u3 (by omega) rfl (fun a ha z => ?_) rfl rfl rfl rfl rfl rfl rfl
            · exact q.ext (Nat.le_refl _) (fun _ _ => rfl) (by show na ≤ na + 1; omega) (fun z hz => up1_ne _ (by change z < na at hz; omega))
            · have v39 : up2 (up2 (up2 (up2 (up2 (up2 (Mi S (xb + 22)) 10 na (nI i)) 11 na kk) 12 na (nI o)) 13 na d) 39 na (-1)) 0 3 (nI (na + 1)) 39 a = Mi S (xb + 22) 39 a := by rw [up2_ne _ (by decide), up2_nk _ (by omega), up2_ne _ (by decide), up2_ne _ (by decide), up2_ne _ (by decide), up2_ne _ (by decide)]
              rw [v39]; exact z
      · refine ⟨-1, S, ?_, S, ?_, h.le⟩
        · unfold f_X11_account
          simp only [xV x, X_firmAt x s3 hk hi, X_personAt x p3 hko ho, Option.bind_some, if_neg (show ¬ (some (fa i) = none) by simp), if_neg (show ¬ (some (pa o) = none) by simp), X_isPast x, rcv_s hk, X_isMergedBy cf hi, xR_accounts x, xV_accounts x, L_size a3, X_isWithin, i01, Int32.reduceToInt]
          by_cases d1 : 0 ≤ kk.toInt ∧ kk.toInt < 4
          · rw [if_neg (fun q => q d1)]
            by_cases d2 : 0 ≤ d.toInt ∧ d.toInt ≤ (mi S xb 0).toInt
            · rw [if_neg (fun q => q d2)]
              by_cases d3 : mgd (Mi S (xb + 22)) d i
              · rw [if_neg (fun q => q d3)]
              · rw [if_pos d3, if_neg]
                rw [lt_i, nI_toInt (by omega)]
                simp only [Int32.reduceToInt]
                intro q
                exact cOK ⟨d1, d2, d3, by omega⟩
            · rw [if_pos d2]
          · rw [if_pos d1]
        · unfold f_X12_account
          simp only [mV m, M_isFirm m s1 (by omega) hi, M_isPerson m p1 (by omega) ho, M_isPast m, M_isMerged m d (show i < 8 by omega), Option.bind_some, M_isIn, i01, Int32.reduceToInt, mI m, a1]
          rw [if_neg (by decide)]
          by_cases d1 : 0 ≤ kk.toInt ∧ kk.toInt ≤ 3
          · rw [if_neg (fun q => q d1), if_neg (by decide)]
            by_cases d2 : 0 ≤ d.toInt ∧ d.toInt ≤ (mi S (xb + 22) 0).toInt
            · rw [if_neg (fun q => q d2)]
              by_cases d3 : mgd (Mi S (xb + 22)) d i
              · rw [if_neg (fun q => q d3)]
              · rw [if_pos d3]
                by_cases d4 : na < 40
                · exact absurd ⟨by omega, by rw [e0]; exact d2, d3, d4⟩ cOK
                · rw [if_pos (by rw [show na = 40 by omega]; rfl)]
            · rw [if_pos d2]
          · rw [if_pos d1]
    · refine ⟨-1, S, ?_, S, ?_, h.le⟩
      · unfold f_X11_account
        simp only [xV x, X_firmAt x s3 hk hi, X_personAt_n x p3 c2, Option.bind_some, if_neg (show ¬ (some (fa i) = none) by simp), if_true]
      · unfold f_X12_account
        simp only [mV m, M_isFirm m s1 (by omega) hi, M_isPerson_n m p1 (by omega) c2, Option.bind_some, if_true, M_isIn, i01]
        rw [if_neg (by decide)]
        split <;> rfl
  · refine ⟨-1, S, ?_, S, ?_, h.le⟩
    · unfold f_X11_account
      rcases ixc p (n := np) (by omega) with ⟨o, ho, rfl⟩ | c2
      · simp only [xV x, X_firmAt_n x s3 c1, X_personAt x p3 (p4 o ho).1 ho, Option.bind_some, if_true]
      · simp only [xV x, X_firmAt_n x s3 c1, X_personAt_n x p3 c2, Option.bind_some, if_true]
    · unfold f_X12_account
      simp only [mV m, M_isFirm_n m s1 (by omega) c1, Option.bind_some, if_true]
