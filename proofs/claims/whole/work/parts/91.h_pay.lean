theorem op_pay {S : St} {xb k : Nat} (h : JJ S xb (k + 1)) (x1 : Int32) : ∃ r S1, f_X11_pay S xb x1 = some (r, S1) ∧ ∃ S2, f_X12_pay S1 (xb + 22) x1 = some (r, S2) ∧ JJ S2 xb k := by
  obtain ⟨⟨g', j⟩, rm1, rm2⟩ := id h
  obtain ⟨M, hM⟩ : ∃ M, M = Mi S (xb + 22) := ⟨_, rfl⟩
  obtain ⟨L, hL⟩ : ∃ L, L = Ml S (xb + 22) := ⟨_, rfl⟩
  rw [← hM, ← hL] at j
  obtain ⟨nf, fa, np, pa, na, aa, ne, ea, il, nc, ca, rfl, b, c0, ct, cy, cf, cp, cn, ca', ce, cc, cl⟩ := j.op
  have x := b.2.2.1
  have m := b.2.2.2.1
  have q1 : mi S (xb + 22) 69 = nI nc := by
    have z := cc.1
    rw [hM] at z
    exact z
  have n60 := cc.2.1
  have n40 := ca'.2.1
  have n24 := cp.2.1
  rcases ixc x1 (n := nc) (by omega) with ⟨c, hc, rfl⟩ | c1
  · have c60 : c < 60 := by omega
    obtain ⟨H, a, p, q, s, v, hH, hl, a1, p1, p2, s1, e12, e49, e50, e39, r0, r1, r3, -, -, ⟨U, u1, u2⟩, mG⟩ := clm j hc
    obtain ⟨kc, lo, -, -, -, k3, -, -, k4, k5, k6, -⟩ := cc.2.2.2.1 c hc
    have a40 : a < 40 := by omega
    have p24 : p < 24 := by omega
    have q24 : q < 24 := by omega
    have jU := j.px u2
    obtain ⟨P, hP⟩ : ∃ P, P = prts M H np p q := ⟨_, rfl⟩
    have P24 : P ≤ 2 ^ 24 := by rw [hP]; exact prts_le cp.par n24 p2
    obtain ⟨G, hG⟩ : ∃ G : Int32, G = if v ≤ M 51 c ∧ 0 < prts M H np p q then (1 : Int32) else 0 := ⟨_, rfl⟩
    rw [← hG] at u1 mG
    have hG0 : G ≠ 0 → 0 < P := fun z => by
      rw [hG] at z
      by_cases y : v ≤ M 51 c ∧ 0 < prts M H np p q
      · rw [hP]; exact y.2
      · rw [if_neg y] at z; exact absurd rfl z
    clear hG
    have xU := x.sw u2
    have mU := m.sw u2
    obtain ⟨bU, c0U, ctU, cyU, cfU, cpU, cnU, caU, ceU, ccU, clU⟩ := jU.un
    have kU : kd U (ca c) = 3 := by rw [u2.kd]; exact kc
    have nc' : ¬ PX xb (ca c) := by unfold PX; omega
    have eU : ∀ o, o < 60 → Mi U (xb + 22) o = M o ∧ Ml U (xb + 22) o = L o := fun o _ => by rw [hM, hL]; exact PX_m u2 o
    by_cases d : M 53 c = 0
    · by_cases d0 : G = 0
      · obtain ⟨B, g1, g2⟩ := mG U mU (fun o ho => (eU o ho).1) (congrFun (eU 42 (by omega)).2 a)
        refine ⟨-1, U, ?_, B, ?_, h.pa u2 g2⟩
        · unfold f_X11_pay
          simp only [xV x, X_claimAt x cc.2.2.1 kc hc, Option.bind_some, if_neg (show ¬ (some (ca c) = none) by simp), getI_s kc, k4, if_pos d, u1, if_pos d0]
        · have z69 : mi U (xb + 22) 69 = nI nc := ccU.1 ▸ (congrFun (eU 0 (by omega)).1 69)
          have z53 : mi U (xb + 22 + 53) c = 0 := (congrFun (eU 53 (by omega)).1 c).trans d
          unfold f_X12_pay
          simp only [mI mU, M_clm mU z69 (by omega) hc, Option.bind_some, mR_claimState mU, mL_claimState mU c60, z53, mV mU, g1, if_pos d0]
          rw [if_neg (by decide), if_pos True.intro]
      · have Pp := hG0 d0
        -- the class, as far as both ways go
        obtain ⟨tot, htot⟩ : ∃ tot, tot = L 42 a + itv M L a := ⟨_, rfl⟩
        obtain ⟨y, hy⟩ : ∃ y, y = tot / lN P := ⟨_, rfl⟩
        obtain ⟨pd, hpd⟩ : ∃ pd, pd = pdv M L a (List.range nc) 0 := ⟨_, rfl⟩
        have kaU := (caU.2.2.2 a a1).1
        have kpU : f_X11_partsOf U (some (ca c)) = some (nI P) := by
          rw [hP]
          exact X_partsOf cpU hH (fun z hz => by rw [(u2.2.2.2 (pa z) (by have := (cp.2.2.2 z hz).2.1; unfold PX; omega)).1]; exact hl z hz) p1 p2 kU (by rw [u2.mr]; exact r0) (by rw [u2.mr]; exact r1) kaU (by rw [u2.mr]; exact r3)
        have r1U : mr U (ca c) 1 = some (aa a) := by rw [u2.mr]; exact r1
        have wasU : f_X11_wasPaidBefore U xb (some (ca c)) = some (if wpF M c nc 0 then 1 else 0) := by
          have g := X_was2 xU cpU caU ccU hc nc 0 FU (by omega) (by unfold FU; omega)
          rw [nI_0] at g
          exact g
        have hne : M 39 a ≠ -1 := by
          rw [e39]
          exact nI_ne1 (by omega)
        have l8 : ml U (aa a) 8 = L 42 a := by
          obtain ⟨-, -, -, -, -, -, -, -, -, -, -, -, e8⟩ := caU.2.2.2 a a1
          exact (e8.resolve_left (fun z => hne z.1)).2.1
        have i7 : mi U (aa a) 7 = nI s := by
          obtain ⟨-, -, -, -, -, -, -, -, -, -, -, e7, -⟩ := caU.2.2.2 a a1
          exact e7.trans e39
        have lN0 : lN P ≠ 0 := fun z => by
          rw [show (0 : Int64) = lN 0 from rfl, lN_eq (by omega) (by omega)] at z
          omega
        have hX : f_X11_pay S xb (nI c) = (if (if wpF M c nc 0 then (1 : Int32) else 0) = 0 then (if lg_cmp (pd + y) tot ≤ 0 then (putI U (some (ca c)) 3 4 1).bind fun S98 =>
    (putL S98 (some (ca c)) 3 5 y).bind fun S104 =>
    (getI S104 (some (ca c)) 3 3).bind fun v111 =>
    (getR S104 (some (ca c)) 3 1).bind fun v116 =>
    (getI S104 v116 1 7).bind fun v119 =>
    (rcv S104 (some xb) 12).bind fun b122 =>
    (f_X11_lawOf S104 b122 v119).bind fun v122 =>
    (getI S104 v122 7 4).bind fun v125 =>
    (f_J9_min_7cf53 S104 v111 v125).bind fun v128 =>
    (divL (y * (Int32.toInt64 v128)) 100).bind fun v136 =>
    (putL S104 (some (ca c)) 3 6 v136).bind fun S137 =>
    some (y, S137) else some (-1, U)) else some (-1, U)) := by
          unfold f_X11_pay
          simp only [xV x, X_claimAt x cc.2.2.1 kc hc, Option.bind_some, if_neg (show ¬ (some (ca c) = none) by simp), getI_s kc, k4, if_pos d, u1, if_neg d0, xV xU, wasU, kpU, getR_s kU, r1U, getL_s kaU, l8, X_interest xU clU c0U caU a1 hne, X_paidOf xU caU ccU a1, nI_l (show P < 2 ^ 31 by omega), ← htot, divL, if_neg lN0, ← hy, ← hpd, if_pos (show (0 : Int32) < nI P by rw [lt_i, nI_toInt (by omega)]; simp only [Int32.reduceToInt]; omega)]
        -- the reference
        have hR : ∀ Z : St, MOK Z (xb + 22) → (∀ o, o < 60 → Mi Z (xb + 22) o = M o ∧ Ml Z (xb + 22) o = L o) → ∃ B, SW (PA xb) Z B ∧ f_X12_pay Z (xb + 22) (nI c) = (if wpF M c nc 0 then some (-1, B) else if lg_cmp (pd + y) tot ≤ 0 then some (y, setL (setL (setI B (xb + 22 + 53) c 1) (xb + 22 + 54) c y) (xb + 22 + 55) c (y * (if M 23 s < M 52 c then M 23 s else M 52 c).toInt64 / 100)) else some (-1, B)) := by
          intro Z mZ hZ
          obtain ⟨B, g1, g2⟩ := mG Z mZ (fun o ho => (hZ o ho).1) (congrFun (hZ 42 (by omega)).2 a)
          have mB := mZ.sw g2
          have eB : ∀ B', SW (PA xb) Z B' → ∀ o, o < 37 ∨ 38 < o ∧ o < 46 ∨ 48 < o ∧ o < 60 → Mi B' (xb + 22) o = M o ∧ Ml B' (xb + 22) o = L o := fun B' w' o ho => by
            have e1 := w'.2.2.2 (xb + 22 + o) (by unfold PA P3; omega)
            have e2 := hZ o (by omega)
            exact ⟨e1.1.trans e2.1, e1.2.trans e2.2⟩
          have z69 : mi Z (xb + 22) 69 = nI nc := (congrFun (hZ 0 (by omega)).1 69).trans cc.1
          have z53 : mi Z (xb + 22 + 53) c = 0 := (congrFun (hZ 53 (by omega)).1 c).trans d
          have f := eB B g2
          have f69 : mi B (xb + 22) 69 = nI nc := (congrFun (f 0 (by omega)).1 69).trans cc.1
          have f50 : mi B (xb + 22 + 50) c = nI a := (congrFun (f 50 (by omega)).1 c).trans e50
          have f42 : ml B (xb + 22 + 42) a = L 42 a := congrFun (f 42 (by omega)).2 a
          have f12 : mi B (xb + 22 + 12) a = nI p := (congrFun (f 12 (by omega)).1 a).trans e12
          have f9 : mi B (xb + 22 + 9) p = M 9 p := congrFun (f 9 (by omega)).1 p
          have f2 : mi B (xb + 22) 2 = nI np := (congrFun (f 0 (by omega)).1 2).trans cp.1
          have l44 := M_p44 (M := M) mB f69 n60 hc (f 49 (by omega)).1 (f 50 (by omega)).1 (f 53 (by omega)).1 e50 nc 0 FU (by omega) (by unfold FU; omega)
          rw [nI_0] at l44
          have fin : ∀ B' t, SW (PA xb) Z B' → t = y → f_X12_pay_198 B' (xb + 22) (nI c) (nI a) tot t = (if lg_cmp (pd + y) tot ≤ 0 then some (y, setL (setL (setI B' (xb + 22 + 53) c 1) (xb + 22 + 54) c y) (xb + 22 + 55) c (y * (if M 23 s < M 52 c then M 23 s else M 52 c).toInt64 / 100)) else some (-1, B')) := by
            intro B' t w' ht
            rw [ht]
            have f' := eB B' w'
            have mB' := mZ.sw w'
            refine M_p198 mB' c60 a40 s1 ?_ (congrFun (f' 52 (by omega)).1 c) ((congrFun (f' 39 (by omega)).1 a).trans e39) (congrFun (f' 23 (by omega)).1 s)
            rw [M_paidOf mB' ((congrFun (f' 0 (by omega)).1 69).trans cc.1) n60, hpd, pdv_rows (f' 50 (by omega)).1 (f' 53 (by omega)).1 (f' 54 (by omega)).2]
          have hit : f_X12_interest B (xb + 22) (nI a) = some (itv M L a) := by
            rw [M_interest mB a40 s1 ((congrFun (f 39 (by omega)).1 a).trans e39), itv_rows (f 0 (by omega)).1 (f 24 (by omega)).1 (f 25 (by omega)).1 (f 39 (by omega)).1 (f 40 (by omega)).1 (f 42 (by omega)).2]
          have head : f_X12_pay Z (xb + 22) (nI c) = (if wpF M c nc 0 then some (-1, B) else (if M 9 p = -1 then f_X12_pay_198 B (xb + 22) (nI c) (nI a) tot tot else
    (f_X12_shares B (xb + 22) (nI p)).bind fun S135 =>
    (getR S135 (some (xb + 22)) 13 67).bind fun v139 =>
    (getR S135 (some (xb + 22)) 13 70).bind fun v143 =>
    (ldI S135 v143 15 (nI c)).bind fun v147 =>
    (ldL S135 v139 v147).bind fun v148 =>
    (getR S135 (some (xb + 22)) 13 68).bind fun v150 =>
    (getR S135 (some (xb + 22)) 13 70).bind fun v154 =>
    (ldI S135 v154 15 (nI c)).bind fun v158 =>
    (ldL S135 v150 v158).bind fun v159 =>
    (f_X12_common S135 v148 v159).bind fun v160 =>
    (getR S135 (some (xb + 22)) 13 67).bind fun v167 =>
    (getR S135 (some (xb + 22)) 13 70).bind fun v171 =>
    (ldI S135 v171 15 (nI c)).bind fun v175 =>
    (ldL S135 v167 v175).bind fun v176 =>
    (divL v176 v160).bind fun v179 =>
    (getR S135 (some (xb + 22)) 13 68).bind fun v182 =>
    (getR S135 (some (xb + 22)) 13 70).bind fun v186 =>
    (ldI S135 v186 15 (nI c)).bind fun v190 =>
    (ldL S135 v182 v190).bind fun v191 =>
    (divL v191 v160).bind fun v194 =>
    (divL (tot * v179) v194).bind fun v195 =>
    f_X12_pay_198 S135 (xb + 22) (nI c) (nI a) tot v195)) := by
            unfold f_X12_pay
            simp only [mI mZ, M_clm mZ z69 (by omega) hc, Option.bind_some, mR_claimState mZ, mL_claimState mZ c60, z53, mV mZ, g1, if_neg d0, mR_claimOn mB, mL_claimOn mB c60, f50, l44]
            rw [if_neg (by decide), if_pos True.intro]
            by_cases e : wpF M c nc 0 = true
            · rw [if_pos e, if_pos e]
            · rw [if_neg e, if_neg e]
              simp only [mR_held mB, mL_held mB a40, f42, mV mB, hit, Option.bind_some, mR_died mB, mR_owner mB, mL_owner mB a40, f12, mL_died mB p24, f9, ← htot]
          by_cases e9 : M 9 p = -1
          · refine ⟨B, g2, ?_⟩
            rw [head, if_pos e9, fin B tot g2]
            rw [hy]
            have : P = 1 := by
              rw [hP] at Pp ⊢
              unfold prts at Pp ⊢
              rw [if_pos e9] at Pp ⊢
              by_cases e : q = p
              · rw [if_pos e]
              · rw [if_neg e] at Pp; omega
            rw [this, lN_one, Int64.div_one]
          · obtain ⟨B2, b1, b2, b3⟩ := M_shares (p := p) cp.par n24 hH p1 mB f2 (fun c hc => ⟨congrFun (f 8 (by omega)).1 c, congrFun (f 9 (by omega)).1 c⟩)
            have w2 : SW (PA xb) Z B2 := g2.tr (b2.mono (fun _ z => Or.inl z))
            have mB2 := mZ.sw w2
            have f49 : mi B2 (xb + 22 + 49) c = nI q := (congrFun (eB B2 w2 49 (by omega)).1 c).trans e49
            have eP : prt M H np p q = P := by rw [hP]; unfold prts; rw [if_neg e9]
            obtain ⟨t1, t2⟩ := b3 q p2
            rw [eP, if_pos Pp] at t1 t2
            have hco : f_X12_common B2 1 (lN P) = some 1 := by
              have z := M_common (T := B2) (q := P) (by omega)
              rw [if_pos Pp, if_pos Pp] at z
              exact z
            by_cases e : wpF M c nc 0 = true
            · exact ⟨B, g2, by rw [head, if_pos e, if_pos e]⟩
            · refine ⟨B2, w2, ?_⟩
              rw [head, if_neg e, if_neg e, if_neg e9, b1]
              simp only [Option.bind_some, mR_above mB2, mR_below mB2, mR_claimBy mB2, mL_claimBy mB2 c60, f49, mL_above mB2 q24, mL_below mB2 q24, t1, t2, hco, divL, if_neg (show ¬ ((1 : Int64) = 0) by decide), Int64.div_one, if_neg lN0, Int64.mul_one, ← hy]
              exact fin B2 y w2 rfl
        rw [hX]
        by_cases e : wpF M c nc 0 = true
        · obtain ⟨B, w', hB⟩ := hR U mU eU
          rw [if_pos e] at hB ⊢
          rw [if_neg (by decide)]
          exact ⟨_, _, rfl, B, hB, h.pa u2 w'⟩
        · rw [if_neg e, if_pos rfl]
          by_cases e2 : lg_cmp (pd + y) tot ≤ 0
          · rw [if_pos e2]
            obtain ⟨la, l1, l2⟩ := cl s s1
            obtain ⟨A, hA⟩ : ∃ A, A = setL (setI U (ca c) 4 1) (ca c) 5 y := ⟨_, rfl⟩
            have wA : SW (fun z => z = ca c) U A := by rw [hA]; exact (SW_I (P := fun z => z = ca c) _ _ rfl).tr (SW_L _ _ rfl)
            have kA : kd A (ca c) = 3 := by rw [wA.kd]; exact kU
            have xA := xU.sw wA
            have iA : ∀ f, f ≠ 4 → mi A (ca c) f = mi S (ca c) f := fun f hf => by
              rw [hA]
              show mi (setI U (ca c) 4 1) (ca c) f = _
              rw [mi_setI_i, if_neg (by omega), (u2.2.2.2 (ca c) nc').1]
            have iA4 : mi A (ca c) 4 = 1 := by
              rw [hA]
              show mi (setI U (ca c) 4 1) (ca c) 4 = _
              rw [mi_setI_i, if_pos ⟨rfl, rfl⟩]
            have lA5 : ml A (ca c) 5 = y := by rw [hA, ml_setL_i, if_pos ⟨rfl, rfl⟩]
            have naa : aa a ≠ ca c := fun z => by
              have := (ca'.2.2.2 a a1).1
              rw [z] at this
              omega
            have nla : la ≠ ca c := fun z => by
              have := l2.1
              rw [z] at this
              omega
            have i7A : mi A (aa a) 7 = nI s := by rw [(wA.2.2.2 (aa a) naa).1]; exact i7
            have kaA : kd A (aa a) = 1 := by rw [wA.kd]; exact kaU
            have klA : kd A la = 7 := by rw [wA.kd, u2.kd]; exact l2.1
            have nPl : ¬ PX xb la := by have := l2.2.1; unfold PX; omega
            have i4A : mi A la 4 = M 23 s := by rw [(wA.2.2.2 la nla).1, (u2.2.2.2 la nPl).1]; exact l2.2.2.2.2.2.2.2.2.1
            have k1U : kd (setI U (ca c) 4 1) (ca c) = 3 := kU
            simp only [putI_s kU, Option.bind_some, putL_s k1U, ← hA, getI_s kA, getR_s kA, show mr A (ca c) 1 = some (aa a) by rw [wA.mr]; exact r1U, getI_s kaA, i7A, xV xA, X_lawOf xA s1 (show mr A (xb + 9) s = some la by rw [wA.mr, u2.mr]; exact l1), getI_s klA, i4A, iA 3 (by omega), k3, min_s, divL, if_neg (show ¬ ((100 : Int64) = 0) by decide), putL_s kA]
            obtain ⟨fe, hfe⟩ : ∃ fe, fe = y * (if M 23 s < M 52 c then M 23 s else M 52 c).toInt64 / 100 := ⟨_, rfl⟩
            rw [← hfe]
            obtain ⟨S1, hS1⟩ : ∃ S1, S1 = setL A (ca c) 6 fe := ⟨_, rfl⟩
            have w1 : SW (fun z => z = ca c) U S1 := wA.tr (by rw [hS1]; exact SW_L _ _ rfl)
            have e1 : ∀ o, o < 60 → Mi S1 (xb + 22) o = M o ∧ Ml S1 (xb + 22) o = L o := fun o ho => by
              have z := w1.2.2.2 (xb + 22 + o) (by omega)
              exact ⟨z.1.trans (eU o ho).1, z.2.trans (eU o ho).2⟩
            obtain ⟨B, w', hB⟩ := hR S1 (mU.sw w1) e1
            rw [if_neg e, if_pos e2, ← hfe] at hB
            obtain ⟨S2, hS2⟩ : ∃ S2, S2 = setL (setL (setI B (xb + 22 + 53) c 1) (xb + 22 + 54) c y) (xb + 22 + 55) c fe := ⟨_, rfl⟩
            rw [← hS2] at hB
            refine ⟨y, S1, by rw [hS1], S2, hB, ?_⟩
            have w2 : SW (PC xb) B S2 := by
              rw [hS2]
              exact ((SW_I (P := PC xb) _ _ (Or.inl rfl)).tr (SW_L _ _ (Or.inr (Or.inl rfl)))).tr (SW_L _ _ (Or.inr (Or.inr rfl)))
            rw [hM, hL] at j
            refine h.cst j hc u2 w1 w' w2 ?_ ?_ ?_ (fun z hz => ?_) (fun z hz => ?_) (fun z hz => ?_) ?_ ?_
            · rw [hS1, hS2]
              show mi A (ca c) 4 = mi (setI B (xb + 22 + 53) c 1) (xb + 22 + 53) c
              rw [iA4, mi_setI_i, if_pos ⟨rfl, rfl⟩]
            · rw [hS1, hS2, ml_setL_i, if_neg (by omega), lA5, ml_setL_i, if_neg (by omega), ml_setL_i, if_pos ⟨rfl, rfl⟩]
            · rw [hS1, hS2, ml_setL_i, if_pos ⟨rfl, rfl⟩, ml_setL_i, if_pos ⟨rfl, rfl⟩]
            · rw [hS2]
              show mi (setI B (xb + 22 + 53) c 1) (xb + 22 + 53) z = _
              rw [mi_setI_i, if_neg (by omega)]
            · rw [hS2, ml_setL_i, if_neg (by omega), ml_setL_i, if_neg (by omega)]
              rfl
            · rw [hS2, ml_setL_i, if_neg (by omega), ml_setL_i, if_neg (by omega)]
              rfl
            · rw [hS1]
              show mi A (ca c) 2 = _
              rw [iA 2 (by omega), (u2.2.2.2 (ca c) nc').1]
            · rw [hS1]
              show mi A (ca c) 3 = _
              rw [iA 3 (by omega), (u2.2.2.2 (ca c) nc').1]
          · rw [if_neg e2]
            obtain ⟨B, w', hB⟩ := hR U mU eU
            rw [if_neg e, if_neg e2] at hB
            exact ⟨_, _, rfl, B, hB, h.pa u2 w'⟩
    · have d' : ¬ mi S (xb + 22 + 53) c = 0 := fun z => d (by rw [hM]; exact z)
      refine ⟨-1, S, ?_, S, ?_, h.le⟩
      · unfold f_X11_pay
        simp only [xV x, X_claimAt x cc.2.2.1 kc hc, Option.bind_some, if_neg (show ¬ (some (ca c) = none) by simp), getI_s kc, k4, if_neg d]
      · unfold f_X12_pay
        simp only [mI m, M_clm m q1 (by omega) hc, Option.bind_some, mR_claimState m, mL_claimState m c60, if_neg d']
        rw [if_neg (by decide)]
  · refine ⟨-1, S, ?_, S, ?_, h.le⟩
    · unfold f_X11_pay
      simp only [xV x, X_claimAt_n x cc.2.2.1 c1, Option.bind_some, if_true]
    · unfold f_X12_pay
      simp only [mI m, M_clm_n m q1 (by omega) c1, Option.bind_some, if_true]
