theorem op_grow {S : St} {xb k : Nat} (h : JJ S xb (k + 1)) (a d v bb : Int32) : ∃ r S1, f_X11_grow S xb a d v bb = some (r, S1) ∧ ∃ S2, f_X12_grow S1 (xb + 22) a d v bb = some (r, S2) ∧ JJ S2 xb k := by
  obtain ⟨⟨g', j⟩, rm1, rm2⟩ := id h
  obtain ⟨nf, fa, np, pa, na, aa, ne, ea, il, nc, ca, rfl, b, c0, ct, cy, cf, cp, cn, ca', ce, cc, cl⟩ := j.op
  have x := b.2.2.1
  have m := b.2.2.2.1
  obtain ⟨a1, a2, a3, a4⟩ := id ca'
  obtain ⟨t1, t2, t3, t4, t5⟩ := id ce
  have a1 : mi S (xb + 22) 3 = nI na := a1
  have t2 : mi S (xb + 22) 4 = nI ne := t2
  have e0 : mi S xb 0 = mi S (xb + 22) 0 := c0.1
  rcases ixc a (n := na) (by omega) with ⟨i, hi, rfl⟩ | c1
  · have oi := a4 i hi
    have hk := oi.1
    have e4 : mi S (aa i) 4 = mi S (xb + 22 + 13) i := oi.2.2.2.2.2.2.2.1
    have hr : mr S (aa i) 5 = some (aa i + 1) := oi.2.2.2.2.2.2.2.2.2.2.1
    obtain ⟨q1, q2, q3, q4, q5⟩ := id (t5 i hi)
    have hin : ∀ k, k < (il i).length → (il i).getD k 0 < ne := fun k hk => by
      have := q2.mem.mp (List.getElem_mem hk)
      rw [getD_get hk]; exact this.1
    have hlen : (il i).length ≤ ne := by
      have := q2.1.length_eq
      rw [this]
      exact Nat.le_trans (List.length_filter_le _ _) (by rw [List.length_range]; exact Nat.le_refl _)
    have hgr := X_grew (d' := 0) (d := d) hk hr q1 (fun k hk => (t4 _ (hin k hk)).1.1) (il i).length 0 FU (by omega) (by unfold FU; omega)
    rw [nI_0] at hgr
    have hgE : (∃ k, k < (il i).length ∧ 0 ≤ k ∧ (mi S (ea ((il i).getD k 0)) 1 = d ∧ mi S (ea ((il i).getD k 0)) 0 = -1)) ↔ ∃ y, y < ne ∧ 0 ≤ y ∧ (grB (Mi S (xb + 22)) i y = true ∧ Mi S (xb + 22) 16 y = d) := by
      have g2 : ∀ y, y < ne → (mi S (ea y) 0 = -1 ↔ Mi S (xb + 22) 15 y = 6) := fun y hy => by
        rcases (t4 y hy).1.2.2.2.2.1 with ⟨z1, z2, -⟩ | ⟨⟨s, z1, z2⟩, z3, -⟩
        · rw [z1, z2]; simp
        · rw [z3, z2]
          rw [eq_i, eq_i, nI_toInt (by omega)]
          simp only [Int32.reduceToInt]
          omega
      constructor
      · rintro ⟨k, k1, -, k3, k4⟩
        have hy := hin k k1
        have hm := q2.mem.mp (List.getElem_mem k1)
        rw [← getD_get (d := 0) k1] at hm
        refine ⟨_, hy, by omega, ?_, ?_⟩
        · unfold grB
          rw [Bool.and_eq_true, decide_eq_true_eq, decide_eq_true_eq]
          exact ⟨hm.2, (g2 _ hy).mp k4⟩
        · rw [← k3]; exact (t4 _ hy).1.2.2.1.symm
      · rintro ⟨y, y1, -, y3, y4⟩
        unfold grB at y3
        rw [Bool.and_eq_true, decide_eq_true_eq, decide_eq_true_eq] at y3
        have hm : y ∈ il i := q2.mem.mpr ⟨y1, y3.1⟩
        obtain ⟨k, hk, e⟩ := List.mem_iff_getElem.mp hm
        refine ⟨k, hk, by omega, ?_⟩
        rw [getD_get hk, e]
        exact ⟨((t4 y y1).1.2.2.1).trans y4, (g2 y y1).mpr y3.2⟩
    by_cases cOK : ((((mi S (aa i) 4).toInt ≤ d.toInt ∧ d.toInt ≤ (mi S xb 0).toInt) ∧ ne < 600) ∧ (1 ≤ v.toInt ∧ v.toInt ≤ 9) ∧ (1 ≤ bb.toInt ∧ bb.toInt ≤ 9)) ∧ cntB (grB (Mi S (xb + 22)) i) ne < 4 ∧ ¬ ∃ y, y < ne ∧ 0 ≤ y ∧ (grB (Mi S (xb + 22)) i y = true ∧ Mi S (xb + 22) 16 y = d)
    · obtain ⟨⟨d1, d2, d5⟩, d3, d4⟩ := cOK
      unfold f_X11_grow f_X0_grewOn
      simp only [xV x, X_accountAt x a3 hk hi, Option.bind_some, if_neg (show ¬ (some (aa i) = none) by simp), X_takes x hk d t1 t3, i01, lt_i, le_i, Int32.reduceToInt, getI_s hk, q3, q2.cnt, rcv_s hk, hgr]
      rw [if_neg (fun q => q d1), if_neg (by omega), if_neg (by omega), if_neg (by omega), if_pos d5.2, if_neg (by rw [nI_toInt (by omega)]; omega), if_pos (fun q => d4 (hgE.mp q))]
      have hf4 : nfl 4 = 6 := rfl
      rw [newO_s (by omega) (by rw [hf4]; omega)]
      simp only [Option.bind_some]
      have w := b.1
      have F1 : Fr (fun _ => False) S (mk0 S (nfl 4) 4 0) := Fr_mk0 S _ 4 0
      have b1 : BS (mk0 S (nfl 4) 4 0) xb := b.al F1 (fun a ha => by
        rw [kd_mk0]
        by_cases e : a = nx S
        · rw [if_pos e]; omega
        · rw [if_neg e, w a ha]; omega)
      have x1 := b1.2.2.1
      have k1 : kd (mk0 S (nfl 4) 4 0) (nx S) = 4 := by rw [kd_mk0, if_pos rfl]
      have z0 : mi (mk0 S (nfl 4) 4 0) xb 0 = mi S xb 0 := by rw [mi_mk0, if_neg (by have := b.2.2.2.2.2; omega)]
      simp only [xI x1, z0, rcv_s k1, Option.bind_some]
      obtain ⟨T, g1, g2, g3, g4, g5, g6, g7, g8, g9, g10, g11⟩ := X3_init (-1) d (mi S xb 0) v bb 0 k1
      rw [g1]
      simp only [Option.bind_some]
      have nT : nx T = nx S + 1 := congrArg (fun z => z.1) g4
      have sT : sl T = sl S + 6 := congrArg (fun z => z.2.1) g4
      have F2 : Fr (fun _ => False) S T := F1.tr g11 (fun a h1 h2 => by omega)
      have kN : kd T (nx S) = 4 := by rw [g2, k1]
      have bT : BS T xb := b.al F2 (fun a ha => by
        by_cases e1 : a = nx S
        · rw [e1, kN]; omega
        · rw [F2.2.1 w a (by omega)]; omega)
      have jT := j.al F2 bT
      have kA : kd T (aa i) = 1 := by rw [F2.kdw w hk (by omega)]
      rw [rcv_s kA]
      simp only [Option.bind_some]
      have hnow : (mi S (xb + 22) 0).toInt ≤ 19999 := c0.2.2.1
      have hbeg : 0 ≤ (mi S (xb + 22 + 13) i).toInt := oi.2.2.2.2.2.2.2.2.1
      have hd : 0 ≤ d.toInt ∧ d.toInt ≤ 19999 := by
        have h1 := d1.1.1
        have h2 := d1.1.2
        rw [e4] at h1
        rw [e0] at h2
        omega
      have hcT : nx T + 1 ≤ cap T := by rw [F2.capE]; omega
      have hsT : sl T + 1300 ≤ 7302250 := ar_room sT rm2
      have eSS : (6 : Int32) = 6 ∧ mi T (nx S) 0 = -1 ∧ mi T (nx S) 3 = v ∧ mi T (nx S) 4 = bb ∧ mi T (nx S) 5 = 0 ∧ 1 ≤ v.toInt ∧ v.toInt ≤ 9 ∧ 1 ≤ bb.toInt ∧ bb.toInt ≤ 9 ∨ (∃ s', s' < 6 ∧ (6 : Int32) = nI s') ∧ mi T (nx S) 0 = 6 ∧ mi T (nx S) 3 = 1 ∧ mi T (nx S) 4 = 1 ∧ mi T (nx S) 5 = v := Or.inl ⟨rfl, g5, g8, g9, g10, d2.1, d2.2, d5.1, d5.2⟩
      obtain ⟨U, p, u1, u2, u3, u4, u5, u6, u7, u8⟩ := X_tell (st := 6) (d := d) (v := v) (bb := bb) (now := mi S xb 0) jT hi kN (by have := b.2.2.2.2.2; omega) hd g6 g7 eSS d1.2 hcT hsT (fun _ => by rw [q2.cnt]; exact d3)
      rw [u1]
      simp only [Option.bind_some]
      have hl : kd T (aa i + 1) = 0 := (jT.un.2.2.2.2.2.2.2.2.1.2.2.2.2 i hi).kl
      have bU := bT.ga hl u2 u3
      have xU := bU.2.2.1
      have mU := bU.2.2.2.1
      have xbU : mi U xb = mi S xb := by
        rw [(Pl_at bT hl u2 bT.2.2.1.1 (by omega) (by omega)).2.2.1]
        exact (F2.2.2 xb (by have := b.2.2.2.2.2; omega) (fun c => c)).1
      have kAU := Pl_at bT hl u2 kA (by omega) (by omega)
      have kU : kd U (aa i) = 1 := by rw [kAU.1, kA]
      have iU : mi U (aa i) = mi S (aa i) := by
        rw [kAU.2.2.1]
        exact (F2.2.2 (aa i) (w.lt (by omega)) (fun c => c)).1
      rw [getI_s kU, iU, q3, q2.cnt]
      simp only [Option.bind_some]
      rw [putI_s kU]
      simp only [Option.bind_some, nI_1]
      obtain ⟨G, hG⟩ : ∃ G, G = setI U (aa i) 6 (nI (cntB (grB (Mi S (xb + 22)) i) ne + 1)) := ⟨_, rfl⟩
      rw [← hG]
      have FG : Fr (fun z => z = aa i) U G := by rw [hG]; exact Fr_setI 6 _ (by omega) (fun _ => rfl)
      have bG : BS G xb := by rw [hG]; exact bU.si 6 _ (by omega)
      have hPG : ∀ z, z = aa i → kd U z = 1 := fun z e => by rw [e]; exact kU
      have xG := bG.2.2.1
      have xbG : mi G xb = mi S xb := by rw [hG]; funext z; rw [mi_setI_i, if_neg (by have := oi.2.1; omega), xbU]
      have kG : kd G = kd U := by rw [hG]; rfl
      simp only [xI xG, xbG, t1, xP xG, Option.bind_some, nI_1]
      refine ⟨_, _, rfl, ?_⟩
      obtain ⟨V, hV⟩ : ∃ V, V = setI G xb 5 (nI (ne + 1)) := ⟨_, rfl⟩
      rw [← hV]
      have FV : Fr (fun z => z = xb) G V := by rw [hV]; exact Fr_setI 5 _ (by rw [xG.1]; omega) (fun _ => rfl)
      have bV : BS V xb := by rw [hV]; exact bG.si 5 _ (by rw [xG.1]; omega)
      have hPV : ∀ z, z = xb → kd G z = 12 := fun z e => by rw [e]; exact xG.1
      have mV' := bV.2.2.2.1
      have nV : nx V = nx U := by rw [hV, hG]; rfl
      have sV : sl V = sl U := by rw [hV, hG]; rfl
      have eV : ∀ o, o < 60 → Mi V (xb + 22) o = Mi S (xb + 22) o ∧ Ml V (xb + 22) o = Ml S (xb + 22) o := fun o ho => by
        have h1 := Pl_m bT hl u2 o ho
        have h2 := Fr_m_of b F2 (fun _ c => c.elim) o ho
        have h4 := Fr_m_of bU FG (fun z e => by rw [e]; have := oi.2.1; omega) o ho
        have h3 := Fr_m_of bG FV (fun z e => by rw [e]; omega) o ho
        exact ⟨((h3.1.trans h4.1).trans h1.1).trans h2.1, ((h3.2.trans h4.2).trans h1.2).trans h2.2⟩
      have f0 : ∀ z, mi V (xb + 22) z = mi S (xb + 22) z := fun z => congrFun (eV 0 (by omega)).1 z
      have hV0 : mi V xb 5 = nI (ne + 1) := by rw [hV, mi_setI_i, if_pos ⟨rfl, rfl⟩]
      have hVz : ∀ z, z ≠ 5 → mi V xb z = mi S xb z := fun z hz => by rw [hV, mi_setI_i, if_neg (fun c => hz c.2), xbG]
      obtain ⟨W, y1, y2, y3, y4⟩ := M_tells (a := i) mV' ((f0 4).trans t2) d1.2 6 d v bb
      refine ⟨W, ?_, ?_⟩
      · unfold f_X12_grow
        have hi40 : i < 40 := by omega
        have e9 : mi V (xb + 22 + 13) i = mi S (xb + 22 + 13) i := congrFun (eV 13 (by omega)).1 i
        have e14 : ∀ y, grB (Mi V (xb + 22)) i y = grB (Mi S (xb + 22)) i y := fun y => by unfold grB; rw [(eV 14 (by omega)).1, (eV 15 (by omega)).1]
        have hg := M_grow (a := i) mV' ((f0 4).trans t2) t3 (by omega) d v bb ne 0 FU (by omega) (by unfold FU; omega)
        rw [nI_0, show cntB (grB (Mi V (xb + 22)) i) 0 = 0 from rfl, nI_0, y1] at hg
        have hcc : cntB (grB (Mi V (xb + 22)) i) ne = cntB (grB (Mi S (xb + 22)) i) ne := cntB_congr (fun y _ => e14 y)
        rw [if_neg (fun q => d4 (by obtain ⟨y, h1, h2, h3, h4⟩ := q; exact ⟨y, h1, h2, by rw [← e14]; exact h3, by rw [← (eV 16 (by omega)).1]; exact h4⟩)), hcc, if_neg (by omega)] at hg
        simp only [mV mV', M_isAccount mV' ((f0 3).trans a1) (by omega) hi, Option.bind_some, M_isIn, i01, mR_began mV', mL_began mV' hi40, mI mV', f0, t2, e9, hg, Int32.reduceToInt]
        rw [← e4, ← e0]
        rw [if_neg (by decide), if_neg (by omega), if_neg (by omega), if_neg (by omega), if_neg (by rw [show (600 : Int32) = nI 600 from rfl, nI_eq (by omega) (by omega)]; omega)]
      · obtain ⟨-, c0T, ctT, cyT, cfT, cpT, cnT, caT, ceT, ccT, clT⟩ := jT.un
        have eM : PeqI (tellM (Mi S (xb + 22)) ne i 6 d v bb (mi S xb 0)) (Mi W (xb + 22)) := by
          rw [y3, f0 0, ← e0]
          unfold tellM
          exact (((((((PeqI_of (fun o ho => (eV o ho).1)).up 14 ne _).up 15 ne _).up 16 ne _).up 17 ne _).up 18 ne _).up 19 ne _).up 0 4 _
        refine h.fin (M' := tellM (Mi S (xb + 22)) ne i 6 d v bb (mi S xb 0)) (L' := Ml S (xb + 22)) (g := ((nf, fa), (np, pa), (na, aa), (ne + 1, up1 ea ne (nx S), upL il i ((il i).take p ++ ne :: (il i).drop p)), (nc, ca))) (JX.mk bV ?_ ?_ (((cyT.ga (M' := tellM (Mi S (xb + 22)) ne i 6 d v bb (mi S xb 0)) bT hl u2 rfl).gk bU FG hPG (by decide) rfl).gk bG FV hPV (by decide) rfl) (((cfT.ga (M' := tellM (Mi S (xb + 22)) ne i 6 d v bb (mi S xb 0)) bT hl u2 (fun q => by have := oi.2.1; omega) rfl rfl rfl rfl rfl).gk bU FG hPG (by decide) rfl rfl rfl rfl rfl).gk bG FV hPV (by decide) rfl rfl rfl rfl rfl) (((cpT.ga (M' := tellM (Mi S (xb + 22)) ne i 6 d v bb (mi S xb 0)) bT hl u2 (fun q => by have := oi.2.1; omega) rfl rfl rfl rfl rfl rfl rfl).gk bU FG hPG (by decide) rfl rfl rfl rfl rfl rfl rfl).gk bG FV hPV (by decide) rfl rfl rfl rfl rfl rfl rfl) ?_ ?_ ?_ (((ccT.ga (M' := tellM (Mi S (xb + 22)) ne i 6 d v bb (mi S xb 0)) (L' := Ml S (xb + 22)) bT hl u2 (fun q => by have := oi.2.1; omega) rfl (fun _ _ z => z) rfl rfl rfl rfl rfl rfl rfl).gk bU FG hPG (by decide) rfl (fun _ _ z => z) rfl rfl rfl rfl rfl rfl rfl).gk bG FV hPV (by decide) rfl (fun _ _ z => z) rfl rfl rfl rfl rfl rfl rfl) (((clT.ga (M' := tellM (Mi S (xb + 22)) ne i 6 d v bb (mi S xb 0)) bT hl u2 rfl rfl rfl rfl rfl rfl rfl rfl rfl rfl).gk bU FG hPG (by decide) rfl rfl rfl rfl rfl rfl rfl rfl rfl rfl).gk bG FV hPV (by decide) rfl rfl rfl rfl rfl rfl rfl rfl rfl rfl)) (by rw [FV.capE, FG.capE, u2.capE, F2.capE]) (by omega) (by omega) (y2.fm mV') y2.mr y2.nx y2.sl eM ?_
        · unfold C0
          rw [hVz 0 (by decide), hVz 10 (by decide), hVz 11 (by decide)]
          exact c0
        · refine ((ctT.ga (M' := tellM (Mi S (xb + 22)) ne i 6 d v bb (mi S xb 0)) bT hl u2 rfl rfl).gk (M' := tellM (Mi S (xb + 22)) ne i 6 d v bb (mi S xb 0)) bU FG hPG (by decide) (by rw [xbG, xbU]) rfl rfl).gk bG FV hPV (by decide) ?_ rfl rfl
          rw [hVz 7 (by decide), xbG]
        · have cpU := cpT.ga (M' := tellM (Mi S (xb + 22)) ne i 6 d v bb (mi S xb 0)) bT hl u2 (fun q => by have := oi.2.1; omega) rfl rfl rfl rfl rfl rfl rfl
          have cnU := cnT.ga (M' := tellM (Mi S (xb + 22)) ne i 6 d v bb (mi S xb 0)) cpT bT hl u2 rfl rfl
          have cpG := cpU.gk (M' := tellM (Mi S (xb + 22)) ne i 6 d v bb (mi S xb 0)) bU FG hPG (by decide) rfl rfl rfl rfl rfl rfl rfl
          exact (cnU.gk (M' := tellM (Mi S (xb + 22)) ne i 6 d v bb (mi S xb 0)) cpU bU FG hPG (by decide) rfl rfl).gk cpG bG FV hPV (by decide) rfl rfl
        · have caU := caT.ga (M' := tellM (Mi S (xb + 22)) ne i 6 d v bb (mi S xb 0)) (L' := Ml S (xb + 22)) bT hl u2 (fun q => by have := oi.2.1; omega) rfl (Int.le_refl _) rfl rfl rfl rfl rfl rfl rfl rfl
          have caG : CA G xb (tellM (Mi S (xb + 22)) ne i 6 d v bb (mi S xb 0)) (Ml S (xb + 22)) nf fa np pa na aa := by
            refine ⟨caU.1, caU.2.1, caU.2.2.1.gk bU.1 FG hPG (by decide), fun z hz => ?_⟩
            have oz := caU.2.2.2 z hz
            by_cases e : z = i
            · subst e
              have hGz : ∀ y, y ≠ 6 → mi G (aa z) y = mi U (aa z) y := fun y hy => by rw [hG, mi_setI_i, if_neg (fun c => hy c.2)]
              have hGl : ml G = ml U := by rw [hG]; rfl
              have hGr : mr G = mr U := by rw [hG]; rfl
              unfold AO at oz ⊢
              rw [kG, hGl, hGr, hGz 0 (by decide), hGz 2 (by decide), hGz 4 (by decide), hGz 7 (by decide), hGz 9 (by decide), hGz 10 (by decide)]
              exact oz
            · exact oz.go bU.1 FG (fun c => e (ca'.inj hz hi c)) (Int.le_refl _) rfl rfl rfl rfl rfl rfl rfl rfl
          exact caG.gk bG FV hPV (by decide) rfl (Int.le_refl _) rfl rfl rfl rfl rfl rfl rfl rfl
        · refine ⟨hV0, tellM04, by omega, fun z hz => ⟨((u7 z hz).1.go bU.1 FG (fun c => by have := (u7 z hz).1.1; rw [c, kU] at this; omega) rfl rfl rfl rfl rfl).go bG.1 FV (fun c => by have := (u7 z hz).1.1; rw [c, xU.1] at this; omega) rfl rfl rfl rfl rfl, (u7 z hz).2⟩, fun z hz => ?_⟩
          obtain ⟨v1, v2, v3⟩ := u8 z hz
          have oz := caT.2.2.2 z hz
          have zU := Pl_at bT hl u2 oz.1 (by omega) (by omega)
          have zV := FV.at bG.1 (show kd G (aa z) = 1 by rw [kG, zU.1, oz.1]) (by omega) (fun c => by have := oz.2.1; omega)
          obtain ⟨w1, w2, w3, w4, w5⟩ := ceT.2.2.2.2 z hz
          refine ⟨(v1.gk bU.1 FG hPG (by decide)).gk bG.1 FV hPV (by decide), v2, ?_, by rw [zV.1, kG, zU.1, oz.1], ?_⟩
          · rw [zV.2.2.1, v3]
            by_cases e : z = i
            · subst e
              rw [hG, mi_setI_i, if_pos ⟨rfl, rfl⟩, if_pos ⟨rfl, rfl⟩, q2.cnt]
            · rw [hG, mi_setI_i, if_neg (fun c => e (ca'.inj hz hi c.1)), if_neg (fun q => e q.1), zU.2.2.1, w3]; rfl
          · rw [v3]
            by_cases e : z = i
            · subst e
              rw [if_pos ⟨rfl, rfl⟩, q2.cnt]; omega
            · rw [if_neg (fun q => e q.1)]; exact w5
        · rw [y4]
          exact PeqL_of (fun o ho => (eV o ho).2)
    · refine ⟨0, S, ?_, S, ?_, h.le⟩
      · unfold f_X11_grow f_X0_grewOn
        simp only [xV x, X_accountAt x a3 hk hi, Option.bind_some, if_neg (show ¬ (some (aa i) = none) by simp), X_takes x hk d t1 t3, i01, lt_i, le_i, Int32.reduceToInt, getI_s hk, q3, q2.cnt, rcv_s hk, hgr]
        have hcl := cntB_le (grB (Mi S (xb + 22)) i) ne
        by_cases d1 : ((mi S (aa i) 4).toInt ≤ d.toInt ∧ d.toInt ≤ (mi S xb 0).toInt) ∧ ne < 600
        · rw [if_neg (fun q => q d1)]
          by_cases d2 : v.toInt < 1
          · rw [if_pos d2]
          · rw [if_neg d2]
            by_cases d3 : 9 < v.toInt
            · rw [if_pos d3]
            · rw [if_neg d3]
              by_cases d4 : bb.toInt < 1
              · rw [if_pos d4]
              · rw [if_neg d4]
                by_cases d5 : bb.toInt ≤ 9
                · rw [if_pos d5]
                  by_cases d6 : 4 ≤ cntB (grB (Mi S (xb + 22)) i) ne
                  · rw [if_pos (by rw [nI_toInt (by omega)]; omega)]
                  · rw [if_neg (by rw [nI_toInt (by omega)]; omega), if_neg]
                    intro q
                    exact cOK ⟨⟨d1, by omega, by omega⟩, by omega, fun z => q (hgE.mpr z)⟩
                · rw [if_neg d5]
        · rw [if_pos d1]
      · unfold f_X12_grow
        have hi40 : i < 40 := by omega
        have hg := M_grow (a := i) m t2 t3 (by omega) d v bb ne 0 FU (by omega) (by unfold FU; omega)
        rw [nI_0, show cntB (grB (Mi S (xb + 22)) i) 0 = 0 from rfl, nI_0] at hg
        simp only [mV m, M_isAccount m a1 (by omega) hi, Option.bind_some, M_isIn, i01, mR_began m, mL_began m hi40, mI m, t2, hg, Int32.reduceToInt]
        rw [← e4, ← e0, if_neg (by decide)]
        by_cases d1 : (mi S (aa i) 4).toInt ≤ d.toInt ∧ d.toInt ≤ (mi S xb 0).toInt
        · rw [if_neg (fun q => q d1)]
          by_cases d2 : 1 ≤ v.toInt ∧ v.toInt ≤ 9
          · rw [if_neg (fun q => q d2)]
            by_cases d3 : 1 ≤ bb.toInt ∧ bb.toInt ≤ 9
            · rw [if_neg (fun q => q d3)]
              by_cases d4 : ne < 600
              · rw [if_neg (by rw [show (600 : Int32) = nI 600 from rfl, nI_eq (by omega) (by omega)]; omega)]
                by_cases d5 : ∃ y, y < ne ∧ 0 ≤ y ∧ (grB (Mi S (xb + 22)) i y = true ∧ Mi S (xb + 22) 16 y = d)
                · rw [if_pos d5]
                · rw [if_neg d5]
                  have hq : cntB (grB (Mi S (xb + 22)) i) ne ≤ 4 := by rw [← q2.cnt]; exact q5
                  by_cases d6 : cntB (grB (Mi S (xb + 22)) i) ne = 4
                  · rw [if_pos d6]
                  · exact absurd ⟨⟨⟨d1, d4⟩, d2, d3⟩, by omega, d5⟩ cOK
              · rw [if_pos (by rw [show ne = 600 by omega]; rfl)]
            · rw [if_pos d3]
          · rw [if_pos d2]
        · rw [if_pos d1]
  · refine ⟨0, S, ?_, S, ?_, h.le⟩
    · unfold f_X11_grow
      simp only [xV x, X_accountAt_n x a3 c1, Option.bind_some, if_true]
    · unfold f_X12_grow
      simp only [mV m, M_isAccount_n m a1 (by omega) c1, Option.bind_some, if_true]
