theorem op_person {S : St} {xb k : Nat} (h : JJ S xb (k + 1)) (nm bo ho ma pr : Int32) : ∃ r S1, f_X11_person S xb nm bo ho ma pr = some (r, S1) ∧ ∃ S2, f_X12_person S1 (xb + 22) nm bo ho ma pr = some (r, S2) ∧ JJ S2 xb k := by
  obtain ⟨⟨g', j⟩, rm1, rm2⟩ := id h
  obtain ⟨nf, fa, np, pa, na, aa, ne, ea, il, nc, ca, rfl, b, c0, ct, cy, cf, cp, cn, ca', ce, cc, cl⟩ := j.op
  have x := b.2.2.1
  have m := b.2.2.2.1
  have p1 : mi S (xb + 22) 2 = nI np := cp.1
  have n24 := cp.2.1
  have e0 : mi S xb 0 = mi S (xb + 22) 0 := c0.1
  have hn0 : 0 ≤ (mi S xb 0).toInt := by rw [e0]; exact c0.2.1
  have hn1 : (mi S xb 0).toInt ≤ 19999 := by rw [e0]; exact c0.2.2.1
  obtain ⟨v, hv, hvn, hvj⟩ : ∃ v, f_X11_personAt S xb pr = some v ∧ (v = none ↔ ¬ (0 ≤ pr.toInt ∧ pr.toInt < np)) ∧ (v = none ∨ ∃ q, q < np ∧ pr = nI q ∧ v = some (pa q)) := by
    rcases ixc pr (n := np) (by omega) with ⟨q, hq, rfl⟩ | c
    · exact ⟨_, X_personAt x cp.2.2.1 (cp.2.2.2 q hq).1 hq, ⟨fun z => (by cases z), fun z => absurd (nI_rng hq (by omega)) z⟩, Or.inr ⟨q, hq, rfl, rfl⟩⟩
    · exact ⟨none, X_personAt_n x cp.2.2.1 c, ⟨fun _ => c, fun _ => rfl⟩, Or.inl rfl⟩
  rw [X_pers x cp.2.2.1 n24 hn0 nm bo ho ma pr hv hvn]
  by_cases cOK : pOK np (mi S xb 0) nm bo ho ma pr
  · rw [if_pos cOK]
    obtain ⟨d1, d2, d3, d4, d5, d6⟩ := id cOK
    unfold f_X11_person_91
    simp only [X_isHome, i01, Option.bind_some]
    rw [if_neg (show ¬ ((1 : Int32) = 0) by decide), if_neg (fun q => q d4)]
    have hf9 : nfl 9 = 8 := rfl
    rw [newO_s (by omega) (by rw [hf9]; omega)]
    simp only [Option.bind_some]
    have w := b.1
    have F1 : Fr (fun _ => False) S (mk0 S (nfl 9) 9 0) := Fr_mk0 S _ 9 0
    have b1 : BS (mk0 S (nfl 9) 9 0) xb := b.al F1 (fun a ha => by
      rw [kd_mk0]
      by_cases e : a = nx S
      · rw [if_pos e]; omega
      · rw [if_neg e, w a ha]; omega)
    have x1 := b1.2.2.1
    have l1 : LI (mk0 S (nfl 9) 9 0) (xb + 2) np pa := cp.2.2.1.go w F1 (fun _ e => e.elim)
    have k1 : kd (mk0 S (nfl 9) 9 0) (nx S) = 9 := by rw [kd_mk0, if_pos rfl]
    simp only [xR_persons x1, xV_persons x1, L_size l1, rcv_s k1, Option.bind_some]
    obtain ⟨R, g1, g2, g3, g4, g5, g6, g7, g8, g9, g10, g11, g12, g13⟩ := X8_init (nI np) nm bo ma v k1
    rw [g1]
    simp only [Option.bind_some]
    have kR : kd R (nx S) = 9 := by rw [g2, k1]
    obtain ⟨T, y1, y2, y3, y4, y5, y6, y7, y8, y9⟩ := puI (S := R) 5 ho kR
    rw [y1]
    simp only [Option.bind_some]
    have nT : nx T = nx S + 1 := (congrArg (fun z => z.1) y4).trans (congrArg (fun z => z.1) g4)
    have sT : sl T = sl S + 8 := (congrArg (fun z => z.2.1) y4).trans (congrArg (fun z => z.2.1) g4)
    have F2 : Fr (fun _ => False) S T := (F1.tr g13 (fun a h1 h2 => by omega)).tr y9 (fun a h1 h2 => by omega)
    have kN : kd T (nx S) = 9 := by rw [y2, kR]
    have bT : BS T xb := b.al F2 (fun a ha => by
      by_cases e1 : a = nx S
      · rw [e1, kN]; omega
      · rw [F2.2.1 w a (by omega)]; omega)
    have jT := j.al F2 bT
    obtain ⟨-, c0T, ctT, cyT, cfT, cpT, cnT, caT, ceT, ccT, clT⟩ := jT.un
    have xT := bT.2.2.1
    have lT : LI T (xb + 2) np pa := cpT.2.2.1
    simp only [xR_persons xT, xV_persons xT, Option.bind_some]
    obtain ⟨U, u1, u2, u3, u4, u5, u6, u7, u8⟩ := L_add lT bT.1 (v := nx S) (by omega) (by omega) (by rw [F2.capE]; omega) (by omega)
    have hl := xK_persons xT
    have bU := bT.ga hl u3 (u6 bT.2.1)
    have xU := bU.2.2.1
    have hnx := b.2.2.2.2.2
    have hP : ∀ a, (a = xb + 2 ∨ mr T (xb + 2) 1 = some a ∧ kd T a = 20) → kd T a = 0 ∨ kd T a = 20 := fun a e => by
      rcases e with e | e
      · left; rw [e]; exact hl
      · right; exact e.2
    have uA := u3.at bT.1 kN (by omega) (fun c => by have := hP _ c; omega)
    simp only [u1, Option.bind_some, xV xU]
    have pm := persM_at (M := Mi S (xb + 22)) (np := np) (nm := nm) (bo := bo) (ho := ho) (ma := ma) (pr := pr)
    have cpU : CP U xb (persM (Mi S (xb + 22)) np nm bo ho ma pr) (np + 1) (up1 pa np (nx S)) := by
      refine ⟨by unfold persM; rw [up2_eq], by omega, u2, fun z hz => ?_⟩
      by_cases ez : z = np
      · subst ez
        unfold PO
        rw [up1_eq, uA.1, uA.2.2.1, uA.2.2.2.2, pm.1, pm.2.1, pm.2.2.1, pm.2.2.2.1, pm.2.2.2.2.1, pm.2.2.2.2.2, y8]
        refine ⟨kN, by omega, by rw [y6 0 (by decide), g8], by rw [y6 1 (by decide), g9], by rw [y6 2 (by decide), g10], by rw [y6 3 (by decide), g11], y5, by rw [y6 6 (by decide), g6], d3.1, by omega, ?_, ?_⟩
        · by_cases c5 : ho.toInt = -1
          · left; rw [eq_i]; exact c5
          · right
            obtain ⟨t, t1, rfl⟩ := nI_of (x := ho) (by rw [lt_i]; simp only [Int32.reduceToInt]; omega)
            rw [nI_toInt t1] at d4
            exact ⟨t, by omega, rfl⟩
        · rw [g12]
          rcases hvj with e | ⟨q, q1, q2, q3⟩
          · left
            refine ⟨?_, e⟩
            have := hvn.mp e
            rw [eq_i]; simp only [Int32.reduceToInt]; omega
          · right
            exact ⟨q, q1, q2, by rw [q3, up1_ne _ (by omega)]⟩
      · have hz' : z < np := by omega
        have o1 := cpT.2.2.2 z hz'
        have o2 : PO U xb (Mi S (xb + 22)) pa z := o1.go bT.1 u3 (fun c => by have := hP _ c; have := o1.1; omega) rfl rfl rfl rfl rfl rfl
        obtain ⟨w1, w2, w3, w4, w5, w6, w7, w8, w9, w10, w11, w12⟩ := o2
        unfold PO
        rw [up1_ne _ ez, persM_lt ez (by decide), persM_lt ez (by decide), persM_lt ez (by decide), persM_lt ez (by decide), persM_lt ez (by decide), persM_lt ez (by decide)]
        refine ⟨w1, w2, w3, w4, w5, w6, w7, w8, w9, w10, w11, ?_⟩
        rcases w12 with e | ⟨q, q1, q2, q3⟩
        · exact Or.inl e
        · exact Or.inr ⟨q, q1, q2, by rw [up1_ne _ (by omega)]; exact q3⟩
    obtain ⟨V, v1, v2, v3, v4⟩ := X_lines xU cpU
    rw [v1]
    simp only [Option.bind_some]
    have hPV : ∀ z, (∃ q, q < np + 1 ∧ z = up1 pa np (nx S) q) → kd U z = 9 := fun z ⟨q, q1, q2⟩ => by rw [q2]; exact (cpU.2.2.2 q q1).1
    have FV := v2.fr (fun z hz => by rw [hPV z hz]; omega)
    have bV : BS V xb := bU.fr FV (fun z _ => by rw [v2.mr]) (fun z hz => by rw [v2.kd]; have : kd U z = 99 := bU.1 z hz; omega)
    have mV' := bV.2.2.2.1
    have num : mi V (nx S) 0 = nI np := by
      have q := v3 np 0 (by omega) (by decide)
      rw [up1_eq] at q
      rw [q, uA.2.2.1, y6 0 (by decide), g8]
    rw [getI_s (show kd V (nx S) = 9 by rw [v2.kd, uA.1, kN]), num]
    refine ⟨_, _, rfl, ?_⟩
    have eV : ∀ o, o < 60 → Mi V (xb + 22) o = Mi S (xb + 22) o ∧ Ml V (xb + 22) o = Ml S (xb + 22) o := fun o ho => by
      have h1 := Pl_m bT hl u3 o ho
      have h2 := Fr_m_of b F2 (fun _ c => c.elim) o ho
      have h3 := Fr_m_of bU FV (fun z ⟨q, q1, q2⟩ => by rw [q2]; have := (cpU.2.2.2 q q1).2.1; omega) o ho
      exact ⟨(h3.1.trans h1.1).trans h2.1, (h3.2.trans h1.2).trans h2.2⟩
    have f0 : ∀ z, mi V (xb + 22) z = mi S (xb + 22) z := fun z => congrFun (eV 0 (by omega)).1 z
    obtain ⟨W, z1, z2, z3, z4⟩ := M_person58 mV' ((f0 2).trans p1) d1 nm bo ho ma pr
    refine ⟨W, ?_, ?_⟩
    · rw [M_pers mV' ((f0 2).trans p1) n24, f0 0, ← e0, if_pos cOK]
      exact z1
    · have xbs := xb_same bU FV hPV (by decide)
      have eM : PeqI (persM (Mi S (xb + 22)) np nm bo ho ma pr) (Mi W (xb + 22)) := by
        rw [z3]
        unfold persM
        exact (((((((PeqI_of (fun o ho => (eV o ho).1)).up 4 np _).up 5 np _).up 6 np _).up 7 np _).up 8 np _).up 9 np _).up 0 2 _
      refine h.fin (M' := persM (Mi S (xb + 22)) np nm bo ho ma pr) (L' := Ml S (xb + 22)) (g := ((nf, fa), (np + 1, up1 pa np (nx S)), (na, aa), (ne, ea, il), (nc, ca))) (JX.mk bV ((c0T.ga (M' := persM (Mi S (xb + 22)) np nm bo ho ma pr) bT hl u3 ⟨rfl, rfl, rfl⟩).gk bU FV hPV (by decide) ⟨rfl, rfl, rfl⟩) ((ctT.ga (M' := persM (Mi S (xb + 22)) np nm bo ho ma pr) bT hl u3 rfl rfl).gk bU FV hPV (by decide) (by rw [xbs]) rfl rfl) ((cyT.ga (M' := persM (Mi S (xb + 22)) np nm bo ho ma pr) bT hl u3 rfl).gk bU FV hPV (by decide) rfl) ((cfT.ga (M' := persM (Mi S (xb + 22)) np nm bo ho ma pr) bT hl u3 (by omega) rfl rfl rfl rfl rfl).gk bU FV hPV (by decide) rfl rfl rfl rfl rfl) ⟨cpU.1, cpU.2.1, cpU.2.2.1.gk bU.1 FV hPV (by decide), PO.f7 cpU.2.2.2 v2 v3⟩ v4 (((caT.ga (M' := persM (Mi S (xb + 22)) np nm bo ho ma pr) (L' := Ml S (xb + 22)) bT hl u3 (by omega) rfl (Int.le_refl _) rfl rfl rfl rfl rfl rfl rfl rfl).gk (M' := persM (Mi S (xb + 22)) np nm bo ho ma pr) (L' := Ml S (xb + 22)) bU FV hPV (by decide) rfl (Int.le_refl _) rfl rfl rfl rfl rfl rfl rfl rfl).ext (Nat.le_refl _) (fun _ _ => rfl) (Nat.le_succ _) (fun z hz => up1_ne _ (by omega))) ((ceT.ga (M' := persM (Mi S (xb + 22)) np nm bo ho ma pr) bT hl u3 (fun a ha => by have := (caT.2.2.2 a ha).2.1; omega) rfl rfl rfl rfl rfl rfl rfl).gk bU FV hPV (by decide) (by rw [xbs]) (fun _ _ => Or.inl (by decide)) rfl rfl rfl rfl rfl rfl rfl) (((ccT.ga (M' := persM (Mi S (xb + 22)) np nm bo ho ma pr) (L' := Ml S (xb + 22)) bT hl u3 (by omega) rfl (fun _ _ z => z) rfl rfl rfl rfl rfl rfl rfl).gk (M' := persM (Mi S (xb + 22)) np nm bo ho ma pr) (L' := Ml S (xb + 22)) bU FV hPV (by decide) rfl (fun _ _ z => z) rfl rfl rfl rfl rfl rfl rfl).ext (Nat.le_succ _) (fun z hz => up1_ne _ (by omega)) (Nat.le_refl _) (fun _ _ => rfl)) ((clT.ga (M' := persM (Mi S (xb + 22)) np nm bo ho ma pr) bT hl u3 rfl rfl rfl rfl rfl rfl rfl rfl rfl rfl).gk bU FV hPV (by decide) rfl rfl rfl rfl rfl rfl rfl rfl rfl rfl)) (by rw [v2.cap, u3.capE, F2.capE]) (by rw [v2.nx]; omega) (by rw [v2.sl]; omega) (z2.fm mV') z2.mr z2.nx z2.sl eM ?_
      rw [z4]
      exact PeqL_of (fun o ho => (eV o ho).2)
  · rw [if_neg cOK]
    refine ⟨_, _, rfl, S, ?_, h.le⟩
    rw [M_pers m p1 n24, ← e0, if_neg cOK]
