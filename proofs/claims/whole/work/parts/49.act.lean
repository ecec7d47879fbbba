/-! act, grow -/
theorem M_tells {T : St} {xb ne a : Nat} (m : MOK T (xb + 22)) (h4 : mi T (xb + 22) 4 = nI ne) (hne : ne < 600) (st d v bb : Int32) : ∃ T', f_X12_tells T (xb + 22) (nI a) st d v bb = some T' ∧ SW (Pm xb) T T' ∧ Mi T' (xb + 22) = tellM (Mi T (xb + 22)) ne a st d v bb (mi T (xb + 22) 0) ∧ Ml T' (xb + 22) = Ml T (xb + 22) := by
  unfold f_X12_tells
  have P0 : Pm xb (xb + 22) := ⟨by omega, by omega⟩
  simp only [mR_actOf m, mI m, h4, mS_actOf m hne, nrw15, Option.bind_some]
  obtain ⟨S1, s1⟩ : ∃ S1, S1 = setI T (xb + 22 + 14) ne (nI a) := ⟨_, rfl⟩
  rw [← s1]
  have m1 : MOK S1 (xb + 22) := by rw [s1]; exact m.si _ _ _
  have h1 : mi S1 (xb + 22) 4 = nI ne := by rw [s1, mi_setI_i, if_neg (by omega), h4]
  have z1 : mi S1 (xb + 22) 0 = mi T (xb + 22) 0 := by rw [s1, mi_setI_i, if_neg (by omega)]
  have w1 : SW (Pm xb) T S1 := by rw [s1]; exact SW_I _ _ ⟨by omega, by omega⟩
  have i1 : Mi S1 (xb + 22) = up2 (Mi T (xb + 22)) 14 ne (nI a) := by rw [s1, Mi_setI]
  have y1 : Ml S1 (xb + 22) = Ml T (xb + 22) := by rw [s1, Ml_setI]
  clear s1
  simp only [mR_actSort m1, mI m1, h1, mS_actSort m1 hne, nrw15, Option.bind_some]
  obtain ⟨S2, s2⟩ : ∃ S2, S2 = setI S1 (xb + 22 + 15) ne st := ⟨_, rfl⟩
  rw [← s2]
  have m2 : MOK S2 (xb + 22) := by rw [s2]; exact m1.si _ _ _
  have h2 : mi S2 (xb + 22) 4 = nI ne := by rw [s2, mi_setI_i, if_neg (by omega), h1]
  have z2 : mi S2 (xb + 22) 0 = mi T (xb + 22) 0 := by rw [s2, mi_setI_i, if_neg (by omega), z1]
  have w2 : SW (Pm xb) S1 S2 := by rw [s2]; exact SW_I _ _ ⟨by omega, by omega⟩
  have i2 : Mi S2 (xb + 22) = up2 (Mi S1 (xb + 22)) 15 ne st := by rw [s2, Mi_setI]
  have y2 : Ml S2 (xb + 22) = Ml S1 (xb + 22) := by rw [s2, Ml_setI]
  clear s2
  simp only [mR_actOn m2, mI m2, h2, mS_actOn m2 hne, nrw15, Option.bind_some]
  obtain ⟨S3, s3⟩ : ∃ S3, S3 = setI S2 (xb + 22 + 16) ne d := ⟨_, rfl⟩
  rw [← s3]
  have m3 : MOK S3 (xb + 22) := by rw [s3]; exact m2.si _ _ _
  have h3 : mi S3 (xb + 22) 4 = nI ne := by rw [s3, mi_setI_i, if_neg (by omega), h2]
  have z3 : mi S3 (xb + 22) 0 = mi T (xb + 22) 0 := by rw [s3, mi_setI_i, if_neg (by omega), z2]
  have w3 : SW (Pm xb) S2 S3 := by rw [s3]; exact SW_I _ _ ⟨by omega, by omega⟩
  have i3 : Mi S3 (xb + 22) = up2 (Mi S2 (xb + 22)) 16 ne d := by rw [s3, Mi_setI]
  have y3 : Ml S3 (xb + 22) = Ml S2 (xb + 22) := by rw [s3, Ml_setI]
  clear s3
  simp only [mR_actAmount m3, mI m3, h3, mS_actAmount m3 hne, nrw15, Option.bind_some]
  obtain ⟨S4, s4⟩ : ∃ S4, S4 = setI S3 (xb + 22 + 17) ne v := ⟨_, rfl⟩
  rw [← s4]
  have m4 : MOK S4 (xb + 22) := by rw [s4]; exact m3.si _ _ _
  have h4 : mi S4 (xb + 22) 4 = nI ne := by rw [s4, mi_setI_i, if_neg (by omega), h3]
  have z4 : mi S4 (xb + 22) 0 = mi T (xb + 22) 0 := by rw [s4, mi_setI_i, if_neg (by omega), z3]
  have w4 : SW (Pm xb) S3 S4 := by rw [s4]; exact SW_I _ _ ⟨by omega, by omega⟩
  have i4 : Mi S4 (xb + 22) = up2 (Mi S3 (xb + 22)) 17 ne v := by rw [s4, Mi_setI]
  have y4 : Ml S4 (xb + 22) = Ml S3 (xb + 22) := by rw [s4, Ml_setI]
  clear s4
  simp only [mR_actBy m4, mI m4, h4, mS_actBy m4 hne, nrw15, Option.bind_some]
  obtain ⟨S5, s5⟩ : ∃ S5, S5 = setI S4 (xb + 22 + 18) ne bb := ⟨_, rfl⟩
  rw [← s5]
  have m5 : MOK S5 (xb + 22) := by rw [s5]; exact m4.si _ _ _
  have h5 : mi S5 (xb + 22) 4 = nI ne := by rw [s5, mi_setI_i, if_neg (by omega), h4]
  have z5 : mi S5 (xb + 22) 0 = mi T (xb + 22) 0 := by rw [s5, mi_setI_i, if_neg (by omega), z4]
  have w5 : SW (Pm xb) S4 S5 := by rw [s5]; exact SW_I _ _ ⟨by omega, by omega⟩
  have i5 : Mi S5 (xb + 22) = up2 (Mi S4 (xb + 22)) 18 ne bb := by rw [s5, Mi_setI]
  have y5 : Ml S5 (xb + 22) = Ml S4 (xb + 22) := by rw [s5, Ml_setI]
  clear s5
  simp only [mR_actTold m5, mI m5, h5, z5, mS_actTold m5 hne, nrw15, Option.bind_some]
  obtain ⟨S6, s6⟩ : ∃ S6, S6 = setI S5 (xb + 22 + 19) ne (mi T (xb + 22) 0) := ⟨_, rfl⟩
  rw [← s6]
  have m6 : MOK S6 (xb + 22) := by rw [s6]; exact m5.si _ _ _
  have h6 : mi S6 (xb + 22) 4 = nI ne := by rw [s6, mi_setI_i, if_neg (by omega), h5]
  have z6 : mi S6 (xb + 22) 0 = mi T (xb + 22) 0 := by rw [s6, mi_setI_i, if_neg (by omega), z5]
  have w6 : SW (Pm xb) S5 S6 := by rw [s6]; exact SW_I _ _ ⟨by omega, by omega⟩
  have i6 : Mi S6 (xb + 22) = up2 (Mi S5 (xb + 22)) 19 ne (mi T (xb + 22) 0) := by rw [s6, Mi_setI]
  have y6 : Ml S6 (xb + 22) = Ml S5 (xb + 22) := by rw [s6, Ml_setI]
  clear s6
  simp only [mI m6, h6, mP m6, Option.bind_some]
  refine ⟨_, rfl, ((((((w1.tr w2).tr w3).tr w4).tr w5).tr w6).tr (SW_I _ _ P0)), ?_, ?_⟩
  · rw [Mi_setI0, i6, i5, i4, i3, i2, i1, nI_1]; rfl
  · rw [Ml_setI, y6, y5, y4, y3, y2, y1]
theorem ar_room {a b k : Nat} (h : b = a + 6) (h2 : a + 14000 * (k + 1) ≤ 7302250) : b + 1300 ≤ 7302250 := by
  refine Nat.le_trans ?_ h2
  clear h2
  omega
theorem X_takes {S : St} {xb a : Nat} (x : XOK S xb) (ha : kd S a = 1) (d : Int32) {ne : Nat} (h5 : mi S xb 5 = nI ne) (hne : ne ≤ 600) : f_X11_takesEntry S xb (some a) d = some (if ((mi S a 4).toInt ≤ d.toInt ∧ d.toInt ≤ (mi S xb 0).toInt) ∧ ne < 600 then 1 else 0) := by
  unfold f_X11_takesEntry
  simp only [getI_s ha, xI x, h5, Option.bind_some, lt_i, le_i, nI_toInt (show ne < 2 ^ 31 by omega), Int32.reduceToInt]
  repeat' split
  all_goals first | rfl | (exfalso; omega)
theorem SW.fm {T T' : St} {xb : Nat} (h : SW (Pm xb) T T') (m : MOK T (xb + 22)) : Fr (Pm xb) T T' := h.fr (fun a c => by have := mKind m c.1 (by have := c.2; omega); omega)
theorem op_act {S : St} {xb k : Nat} (h : JJ S xb (k + 1)) (a st d v : Int32) : ∃ r S1, f_X11_act S xb a st d v = some (r, S1) ∧ ∃ S2, f_X12_act S1 (xb + 22) a st d v = some (r, S2) ∧ JJ S2 xb k := by
  obtain ⟨⟨g', j⟩, rm1, rm2⟩ := id h
  obtain ⟨nf, fa, np, pa, na, aa, ne, ea, il, nc, ca, rfl, b, c0, ct, cy, cf, cp, cn, ca', ce, cc, cl⟩ := j.op
  have x := b.2.2.1
  have m := b.2.2.2.1
  obtain ⟨a1, a2, a3, a4⟩ := id ca'
  obtain ⟨t1, t2, t3, t4, t5⟩ := id ce
  have a1 : mi S (xb + 22) 3 = nI na := a1
  have t2 : mi S (xb + 22) 4 = nI ne := t2
  have e0 : mi S xb 0 = mi S (xb + 22) 0 := c0.1
  rcases ixc a (n := na) (by omega) with ⟨i, hi, rfl⟩ | c1
  · have oi := a4 i hi
    have hk := oi.1
    have e4 : mi S (aa i) 4 = mi S (xb + 22 + 13) i := oi.2.2.2.2.2.2.2.1
    by_cases cOK : ((((mi S (aa i) 4).toInt ≤ d.toInt ∧ d.toInt ≤ (mi S xb 0).toInt) ∧ ne < 600) ∧ (0 ≤ st.toInt ∧ st.toInt < 6)) ∧ -9999999 ≤ v.toInt ∧ v.toInt ≤ 9999999
    · obtain ⟨⟨d1, d2⟩, d3⟩ := cOK
      unfold f_X11_act
      simp only [xV x, X_accountAt x a3 hk hi, Option.bind_some, if_neg (show ¬ (some (aa i) = none) by simp), X_takes x hk d t1 t3, X_isWithin, i01, lt_i, le_i, Int32.reduceToInt]
      rw [if_neg (fun q => q d1), if_neg (fun q => q d2), if_neg (by omega), if_pos d3.2]
      have hf4 : nfl 4 = 6 := rfl
      rw [newO_s (by omega) (by rw [hf4]; omega)]
      simp only [Option.bind_some]
      have w := b.1
      have F1 : Fr (fun _ => False) S (mk0 S (nfl 4) 4 0) := Fr_mk0 S _ 4 0
      have b1 : BS (mk0 S (nfl 4) 4 0) xb := b.al F1 (fun a ha => by
        rw [kd_mk0]
        by_cases e : a = nx S
        · rw [if_pos e]; omega
        · rw [if_neg e, w a ha]; omega)
      have x1 := b1.2.2.1
      have k1 : kd (mk0 S (nfl 4) 4 0) (nx S) = 4 := by rw [kd_mk0, if_pos rfl]
      have z0 : mi (mk0 S (nfl 4) 4 0) xb 0 = mi S xb 0 := by rw [mi_mk0, if_neg (by have := b.2.2.2.2.2; omega)]
      simp only [xI x1, z0, rcv_s k1, Option.bind_some]
      obtain ⟨T, g1, g2, g3, g4, g5, g6, g7, g8, g9, g10, g11⟩ := X3_init st d (mi S xb 0) 1 1 v k1
      rw [g1]
      simp only [Option.bind_some]
      have nT : nx T = nx S + 1 := congrArg (fun z => z.1) g4
      have sT : sl T = sl S + 6 := congrArg (fun z => z.2.1) g4
      have F2 : Fr (fun _ => False) S T := F1.tr g11 (fun a h1 h2 => by omega)
      have kN : kd T (nx S) = 4 := by rw [g2, k1]
      have bT : BS T xb := b.al F2 (fun a ha => by
        by_cases e1 : a = nx S
        · rw [e1, kN]; omega
        · rw [F2.2.1 w a (by omega)]; omega)
      have jT := j.al F2 bT
      have kA : kd T (aa i) = 1 := by rw [F2.kdw w hk (by omega)]
      rw [rcv_s kA]
      simp only [Option.bind_some]
      obtain ⟨s, hs6, rfl⟩ := (ixc st (n := 6) (by decide)).resolve_right (fun q => q d2)
      have hnow : (mi S (xb + 22) 0).toInt ≤ 19999 := c0.2.2.1
      have hbeg : 0 ≤ (mi S (xb + 22 + 13) i).toInt := oi.2.2.2.2.2.2.2.2.1
      have hst : nI s ≠ 6 := by rw [Ne, eq_i, nI_toInt (by omega)]; simp only [Int32.reduceToInt]; omega
      have hd : 0 ≤ d.toInt ∧ d.toInt ≤ 19999 := by
        have h1 := d1.1.1
        have h2 := d1.1.2
        rw [e4] at h1
        rw [e0] at h2
        omega
      have hcT : nx T + 1 ≤ cap T := by rw [F2.capE]; omega
      have hsT : sl T + 1300 ≤ 7302250 := ar_room sT rm2
      have eSS : nI s = 6 ∧ mi T (nx S) 0 = -1 ∧ mi T (nx S) 3 = v ∧ mi T (nx S) 4 = 1 ∧ mi T (nx S) 5 = 0 ∧ 1 ≤ v.toInt ∧ v.toInt ≤ 9 ∧ 1 ≤ (1 : Int32).toInt ∧ (1 : Int32).toInt ≤ 9 ∨ (∃ s', s' < 6 ∧ nI s = nI s') ∧ mi T (nx S) 0 = nI s ∧ mi T (nx S) 3 = 1 ∧ mi T (nx S) 4 = 1 ∧ mi T (nx S) 5 = v := Or.inr ⟨⟨s, hs6, rfl⟩, g5, g8, g9, g10⟩
      obtain ⟨U, p, u1, u2, u3, u4, u5, u6, u7, u8⟩ := X_tell (st := nI s) (d := d) (v := v) (bb := 1) (now := mi S xb 0) jT hi kN (by have := b.2.2.2.2.2; omega) hd g6 g7 eSS d1.2 hcT hsT (fun q => absurd q hst)
      rw [u1]
      simp only [Option.bind_some]
      have hl : kd T (aa i + 1) = 0 := (jT.un.2.2.2.2.2.2.2.2.1.2.2.2.2 i hi).kl
      have bU := bT.ga hl u2 u3
      have xU := bU.2.2.1
      have mU := bU.2.2.2.1
      have xbU : mi U xb = mi S xb := by
        rw [(Pl_at bT hl u2 bT.2.2.1.1 (by omega) (by omega)).2.2.1]
        exact (F2.2.2 xb (by have := b.2.2.2.2.2; omega) (fun c => c)).1
      simp only [xI xU, xbU, t1, xP xU, Option.bind_some, nI_1]
      refine ⟨_, _, rfl, ?_⟩
      obtain ⟨V, hV⟩ : ∃ V, V = setI U xb 5 (nI (ne + 1)) := ⟨_, rfl⟩
      rw [← hV]
      have FV : Fr (fun z => z = xb) U V := by rw [hV]; exact Fr_setI 5 _ (by rw [xU.1]; omega) (fun _ => rfl)
      have bV : BS V xb := by rw [hV]; exact bU.si 5 _ (by rw [xU.1]; omega)
      have hPV : ∀ z, z = xb → kd U z = 12 := fun z e => by rw [e]; exact xU.1
      have mV' := bV.2.2.2.1
      have nV : nx V = nx U := by rw [hV]; rfl
      have sV : sl V = sl U := by rw [hV]; rfl
      have eV : ∀ o, o < 60 → Mi V (xb + 22) o = Mi S (xb + 22) o ∧ Ml V (xb + 22) o = Ml S (xb + 22) o := fun o ho => by
        have h1 := Pl_m bT hl u2 o ho
        have h2 := Fr_m_of b F2 (fun _ c => c.elim) o ho
        have h3 := Fr_m_of bU FV (fun z e => by rw [e]; omega) o ho
        exact ⟨(h3.1.trans h1.1).trans h2.1, (h3.2.trans h1.2).trans h2.2⟩
      have f0 : ∀ z, mi V (xb + 22) z = mi S (xb + 22) z := fun z => congrFun (eV 0 (by omega)).1 z
      have hV0 : mi V xb 5 = nI (ne + 1) := by rw [hV, mi_setI_i, if_pos ⟨rfl, rfl⟩]
      have hVz : ∀ z, z ≠ 5 → mi V xb z = mi S xb z := fun z hz => by rw [hV, mi_setI_i, if_neg (fun c => hz c.2), xbU]
      obtain ⟨W, y1, y2, y3, y4⟩ := M_tells (a := i) mV' ((f0 4).trans t2) d1.2 (nI s) d v 1
      refine ⟨W, ?_, ?_⟩
      · unfold f_X12_act
        have hi40 : i < 40 := by omega
        have e9 : mi V (xb + 22 + 13) i = mi S (xb + 22 + 13) i := congrFun (eV 13 (by omega)).1 i
        simp only [mV mV', M_isAccount mV' ((f0 3).trans a1) (by omega) hi, Option.bind_some, M_isIn, i01, mR_began mV', mL_began mV' hi40, mI mV', f0, t2, e9, y1, Int32.reduceToInt]
        rw [← e4, ← e0]
        rw [if_neg (by decide), if_neg (by omega), if_neg (by omega), if_neg (by omega), if_neg (by rw [show (600 : Int32) = nI 600 from rfl, nI_eq (by omega) (by omega)]; omega)]
      · obtain ⟨-, c0T, ctT, cyT, cfT, cpT, cnT, caT, ceT, ccT, clT⟩ := jT.un
        have eM : PeqI (tellM (Mi S (xb + 22)) ne i (nI s) d v 1 (mi S xb 0)) (Mi W (xb + 22)) := by
          rw [y3, f0 0, ← e0]
          unfold tellM
          exact (((((((PeqI_of (fun o ho => (eV o ho).1)).up 14 ne _).up 15 ne _).up 16 ne _).up 17 ne _).up 18 ne _).up 19 ne _).up 0 4 _
        refine h.fin (M' := tellM (Mi S (xb + 22)) ne i (nI s) d v 1 (mi S xb 0)) (L' := Ml S (xb + 22)) (g := ((nf, fa), (np, pa), (na, aa), (ne + 1, up1 ea ne (nx S), upL il i ((il i).take p ++ ne :: (il i).drop p)), (nc, ca))) (JX.mk bV ?_ ?_ ((cyT.ga (M' := tellM (Mi S (xb + 22)) ne i (nI s) d v 1 (mi S xb 0)) bT hl u2 rfl).gk bU FV hPV (by decide) rfl) ((cfT.ga (M' := tellM (Mi S (xb + 22)) ne i (nI s) d v 1 (mi S xb 0)) bT hl u2 (fun q => by have := oi.2.1; omega) rfl rfl rfl rfl rfl).gk bU FV hPV (by decide) rfl rfl rfl rfl rfl) ((cpT.ga (M' := tellM (Mi S (xb + 22)) ne i (nI s) d v 1 (mi S xb 0)) bT hl u2 (fun q => by have := oi.2.1; omega) rfl rfl rfl rfl rfl rfl rfl).gk bU FV hPV (by decide) rfl rfl rfl rfl rfl rfl rfl) ?_ ((caT.ga (M' := tellM (Mi S (xb + 22)) ne i (nI s) d v 1 (mi S xb 0)) (L' := Ml S (xb + 22)) bT hl u2 (fun q => by have := oi.2.1; omega) rfl (Int.le_refl _) rfl rfl rfl rfl rfl rfl rfl rfl).gk bU FV hPV (by decide) rfl (Int.le_refl _) rfl rfl rfl rfl rfl rfl rfl rfl) ?_ ((ccT.ga (M' := tellM (Mi S (xb + 22)) ne i (nI s) d v 1 (mi S xb 0)) (L' := Ml S (xb + 22)) bT hl u2 (fun q => by have := oi.2.1; omega) rfl (fun _ _ z => z) rfl rfl rfl rfl rfl rfl rfl).gk bU FV hPV (by decide) rfl (fun _ _ z => z) rfl rfl rfl rfl rfl rfl rfl) ((clT.ga (M' := tellM (Mi S (xb + 22)) ne i (nI s) d v 1 (mi S xb 0)) bT hl u2 rfl rfl rfl rfl rfl rfl rfl rfl rfl rfl).gk bU FV hPV (by decide) rfl rfl rfl rfl rfl rfl rfl rfl rfl rfl)) (by rw [FV.capE, u2.capE, F2.capE]) (by omega) (by omega) (y2.fm mV') y2.mr y2.nx y2.sl eM ?_
        · unfold C0
          rw [hVz 0 (by decide), hVz 10 (by decide), hVz 11 (by decide)]
          exact c0
        · refine (ctT.ga (M' := tellM (Mi S (xb + 22)) ne i (nI s) d v 1 (mi S xb 0)) bT hl u2 rfl rfl).gk bU FV hPV (by decide) ?_ rfl rfl
          rw [hVz 7 (by decide), xbU]
        · have := (cnT.ga (M' := tellM (Mi S (xb + 22)) ne i (nI s) d v 1 (mi S xb 0)) cpT bT hl u2 rfl rfl)
          exact this.gk (cpT.ga (M' := tellM (Mi S (xb + 22)) ne i (nI s) d v 1 (mi S xb 0)) bT hl u2 (fun q => by have := oi.2.1; omega) rfl rfl rfl rfl rfl rfl rfl) bU FV hPV (by decide) rfl rfl
        · refine ⟨hV0, tellM04, by omega, fun z hz => ⟨(u7 z hz).1.go bU.1 FV (fun c => by have := (u7 z hz).1.1; rw [c, xU.1] at this; omega) rfl rfl rfl rfl rfl, (u7 z hz).2⟩, fun z hz => ?_⟩
          obtain ⟨v1, v2, v3⟩ := u8 z hz
          have oz := caT.2.2.2 z hz
          have zU := Pl_at bT hl u2 oz.1 (by omega) (by omega)
          have zV := FV.at bU.1 (show kd U (aa z) = 1 by rw [zU.1, oz.1]) (by omega) (fun c => by have := oz.2.1; omega)
          obtain ⟨w1, w2, w3, w4, w5⟩ := ceT.2.2.2.2 z hz
          rw [if_neg (fun q => hst q.2), Nat.add_zero] at v3
          refine ⟨v1.gk bU.1 FV hPV (by decide), v2, ?_, by rw [zV.1, zU.1, oz.1], ?_⟩
          · rw [zV.2.2.1, zU.2.2.1, w3, v3]; rfl
          · rw [v3]; exact w5
        · rw [y4]
          exact PeqL_of (fun o ho => (eV o ho).2)
    · refine ⟨0, S, ?_, S, ?_, h.le⟩
      · unfold f_X11_act
        simp only [xV x, X_accountAt x a3 hk hi, Option.bind_some, if_neg (show ¬ (some (aa i) = none) by simp), X_takes x hk d t1 t3, X_isWithin, i01, lt_i, le_i, Int32.reduceToInt]
        by_cases d1 : ((mi S (aa i) 4).toInt ≤ d.toInt ∧ d.toInt ≤ (mi S xb 0).toInt) ∧ ne < 600
        · rw [if_neg (fun q => q d1)]
          by_cases d2 : 0 ≤ st.toInt ∧ st.toInt < 6
          · rw [if_neg (fun q => q d2)]
            by_cases d3 : v.toInt < -9999999
            · rw [if_pos d3]
            · rw [if_neg d3, if_neg (fun q => cOK ⟨⟨d1, d2⟩, by omega, q⟩)]
          · rw [if_pos d2]
        · rw [if_pos d1]
      · unfold f_X12_act
        have hi40 : i < 40 := by omega
        simp only [mV m, M_isAccount m a1 (by omega) hi, Option.bind_some, M_isIn, i01, mR_began m, mL_began m hi40, mI m, t2, Int32.reduceToInt]
        rw [← e4, ← e0, if_neg (by decide)]
        by_cases d2 : 0 ≤ st.toInt ∧ st.toInt ≤ 5
        · rw [if_neg (fun q => q d2)]
          by_cases d1 : (mi S (aa i) 4).toInt ≤ d.toInt ∧ d.toInt ≤ (mi S xb 0).toInt
          · rw [if_neg (fun q => q d1)]
            by_cases d3 : -9999999 ≤ v.toInt ∧ v.toInt ≤ 9999999
            · rw [if_neg (fun q => q d3)]
              by_cases d4 : ne < 600
              · exact absurd ⟨⟨⟨d1, d4⟩, by omega⟩, d3⟩ cOK
              · rw [if_pos (by rw [show ne = 600 by omega]; rfl)]
            · rw [if_pos d3]
          · rw [if_pos d1]
        · rw [if_pos d2]
  · refine ⟨0, S, ?_, S, ?_, h.le⟩
    · unfold f_X11_act
      simp only [xV x, X_accountAt_n x a3 c1, Option.bind_some, if_true]
    · unfold f_X12_act
      simp only [mV m, M_isAccount_n m a1 (by omega) c1, Option.bind_some, if_true]
