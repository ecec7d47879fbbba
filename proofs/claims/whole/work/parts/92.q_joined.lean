theorem op_joined {S : St} {xb k : Nat} (h : JJ S xb (k + 1)) (x1 x2 x3 : Int32) : ∃ r S1, f_X11_joined S xb x1 x2 x3 = some (r, S1) ∧ ∃ S2, f_X12_joined S1 (xb + 22) x1 x2 x3 = some (r, S2) ∧ JJ S2 xb k := by
  obtain ⟨⟨g', j⟩, rm1, rm2⟩ := id h
  obtain ⟨nf, fa, np, pa, na, aa, ne, ea, il, nc, ca, rfl, b, c0, ct, cy, cf, cp, cn, ca', ce, cc, cl⟩ := j.op
  have x := b.2.2.1
  have m := b.2.2.2.1
  have p1 : mi S (xb + 22) 2 = nI np := cp.1
  have n24 := cp.2.1
  -- not two persons
  have bad : f_X11_joined S xb x1 x2 x3 = some (-1, S) → (∀ A, KW xb S A → f_X12_isPerson A (xb + 22) x2 = some 0 ∨ f_X12_isPerson A (xb + 22) x2 = some 1 ∧ (f_X12_isPerson A (xb + 22) x3 = some 0 ∨ f_X12_isPerson A (xb + 22) x3 = some 1 ∧ x2 = x3)) → ∃ r S1, f_X11_joined S xb x1 x2 x3 = some (r, S1) ∧ ∃ S2, f_X12_joined S1 (xb + 22) x1 x2 x3 = some (r, S2) ∧ JJ S2 xb k := by
    intro e1 e2
    obtain ⟨A, u, hA⟩ := M_isSet m p1 n24 x1
    have mA := m.sw u.1
    refine ⟨_, _, e1, A, ?_, h.jn (JF.rf _ _) u (JW.rf _ _)⟩
    unfold f_X12_joined
    rcases hA with ⟨-, -, -, -, -, -, a1⟩ | ⟨a1, -⟩
    · simp only [mV m, a1, Option.bind_some, mV mA]
      rw [if_neg (by decide)]
      rcases e2 A u with q | ⟨q, q2 | ⟨q2, q3⟩⟩
      · rw [q]; simp only [Option.bind_some, if_true]
      · rw [q, q2]; simp only [Option.bind_some, if_true]
        rw [if_neg (by decide)]
      · rw [q, q2]; simp only [Option.bind_some]
        rw [if_neg (by decide), if_neg (by decide), if_pos q3]
    · simp only [mV m, a1, Option.bind_some, if_true]
  have hp2 : ∀ A, KW xb S A → mi A (xb + 22) 2 = nI np := fun A u => (u.2 2 (by omega)).trans p1
  rcases ixc x2 (n := np) (by omega) with ⟨p, hp, rfl⟩ | d1
  · have kp := (cp.2.2.2 p hp).1
    rcases ixc x3 (n := np) (by omega) with ⟨q, hq, rfl⟩ | d2
    · have kq := (cp.2.2.2 q hq).1
      by_cases epq : p = q
      · refine bad ?_ (fun A u => Or.inr ⟨M_isPerson (m.sw u.1) (hp2 A u) (by omega) hp, Or.inr ⟨M_isPerson (m.sw u.1) (hp2 A u) (by omega) hq, by rw [epq]⟩⟩)
        unfold f_X11_joined
        simp only [xV x, X_personAt x cp.2.2.1 kp hp, X_personAt x cp.2.2.1 kq hq, Option.bind_some, if_neg (show ¬ (some (pa p) = none) by simp), if_neg (show ¬ (some (pa q) = none) by simp)]
        rw [if_pos (by rw [epq])]
      · have hne : ¬ (some (pa p) = some (pa q)) := fun z => epq (cp.inj hp hq (Option.some.inj z))
        obtain ⟨T, w, hT⟩ := X_gather j x1
        have jT := w.jx j
        have xT := jT.1.2.2.1
        have mT := jT.1.2.2.2.1
        have cpT : CP T xb (Mi S (xb + 22)) np pa := jT.un.2.2.2.2.2.1
        have p1T : mi T (xb + 22) 2 = nI np := (congrFun (w.m 0).1 2).trans p1
        obtain ⟨A, u, hA⟩ := M_isSet mT p1T n24 x1
        have mA := mT.sw u.1
        have p1A : mi A (xb + 22) 2 = nI np := (u.2 2 (by omega)).trans p1T
        have nepq : ¬ (nI p = nI q) := fun z => epq ((nI_eq (by omega) (by omega)).mp z)
        rcases hT with ⟨X, X0, X31, eX, hk, hg, e1⟩ | ⟨e1, hn⟩
        · rcases hA with ⟨X', X0', X31', eX', hk', hs, a1⟩ | ⟨a1, hn⟩
          · have : X' = X := by
              rw [eX, nI_eq (by omega) (by omega)] at eX'
              exact eX'.symm
            subst this
            have mp := pl_mem (X := X') hp
            have mq := pl_mem (X := X') hq
            obtain ⟨l, hl⟩ : ∃ l, l = pl X' np := ⟨_, rfl⟩
            rw [← hl] at hg hs mp mq
            have l8 : l.length ≤ 8 := by rw [hl]; exact hk.2
            have hln : ∀ i, i < l.length → l.getD i 0 < np := fun i hi => by rw [hl] at hi ⊢; exact pl_lt hi
            obtain ⟨hse, hwv, hbv⟩ := hg
            have tp : ((x1 >>> (nI p &&& 31)) &&& 1) = if X'.testBit p = true then 1 else 0 := by rw [eX]; exact bitI X31 (by omega)
            have tq : ((x1 >>> (nI q &&& 31)) &&& 1) = if X'.testBit q = true then 1 else 0 := by rw [eX]; exact bitI X31 (by omega)
            -- what is common to both
            have hX : ∀ v47 v56 : Int32, f_X5_seatBit T (xb + 12) (some (pa p)) = some v47 → f_X5_seatBit T (xb + 12) (some (pa q)) = some v56 → f_X11_joined S xb x1 (nI p) (nI q) = (f_J6_bitCount_0f7a4 T (v47 ||| v56)).bind fun v64 => (if v64 = 2 then (f_X5_countBestWith T (xb + 12) (v47 ||| v56)).bind fun v79 => (if v79 = 0 then some (0, T) else (f_X5_countBest T (xb + 12)).bind fun v97 => (if v79 = v97 then some (2, T) else some (1, T))) else some ((-1), T)) := by
              intro v47 v56 h1 h2
              unfold f_X11_joined
              simp only [xV x, X_personAt x cp.2.2.1 kp hp, X_personAt x cp.2.2.1 kq hq, Option.bind_some, if_neg (show ¬ (some (pa p) = none) by simp), if_neg (show ¬ (some (pa q) = none) by simp), if_neg hne, e1, if_neg (show ¬ ((1 : Int32) = 0) by decide), xR_joining xT, xV_joining xT, h1, h2]
            have hM0 : ¬ (X'.testBit p = true ∧ X'.testBit q = true) → f_X12_joined T (xb + 22) x1 (nI p) (nI q) = some (-1, A) := by
              intro hn
              unfold f_X12_joined
              simp only [mV mT, a1, Option.bind_some, mV mA, M_isPerson mA p1A (by omega) hp, M_isPerson mA p1A (by omega) hq, tp, tq]
              rw [if_neg (by decide), if_neg (by decide), if_neg (by decide), if_neg nepq]
              by_cases c : X'.testBit p = true
              · have c2 : ¬ X'.testBit q = true := fun z => hn ⟨c, z⟩
                rw [if_pos c, if_neg (by decide), if_neg c2, if_pos rfl]
              · rw [if_neg c, if_pos rfl]
            rcases X_seatBit xT cpT hse l8 hln hp with ⟨n1, s1⟩ | ⟨i, i1, i2, i3, s1⟩
            · have e2 := hM0 (fun z => n1 (mp.mpr z.1))
              rcases X_seatBit xT cpT hse l8 hln hq with ⟨n2, s2⟩ | ⟨i', i1', i2', i3', s2⟩
              · refine ⟨-1, T, ?_, A, e2, h.jn w u (JW.rf _ _)⟩
                rw [hX _ _ s1 s2]
                rfl
              · refine ⟨-1, T, ?_, A, e2, h.jn w u (JW.rf _ _)⟩
                rw [hX _ _ s1 s2, (bcount T (i := i') (k := i') (by omega) (by omega)).2.2]
                rfl
            · rcases X_seatBit xT cpT hse l8 hln hq with ⟨n2, s2⟩ | ⟨i', i1', i2', i3', s2⟩
              · have e2 := hM0 (fun z => n2 (mq.mpr z.2))
                refine ⟨-1, T, ?_, A, e2, h.jn w u (JW.rf _ _)⟩
                rw [hX _ _ s1 s2, (bcount T (i := i) (k := i) (by omega) (by omega)).2.1]
                rfl
              · -- both are in
                have nii : ¬ i = i' := fun z => epq (by rw [← i2, ← i2', z])
                have inp : p ∈ l := by
                  rw [← i2, List.getD_eq_getElem?_getD, List.getElem?_eq_getElem i1]
                  exact List.getElem_mem i1
                have inq : q ∈ l := by
                  rw [← i2', List.getD_eq_getElem?_getD, List.getElem?_eq_getElem i1']
                  exact List.getElem_mem i1'
                have rA : ∀ o, 4 ≤ o → o ≤ 9 → Mi A (xb + 22) o = Mi S (xb + 22) o := fun o h1 h2 => ((u.1.2.2.2 (xb + 22 + o) (by omega)).1).trans (w.m o).1
                obtain ⟨B, b1, b2, b3, b4⟩ := M_joinAll (T := A) l8 (fun T' w' => M_PRo mA rA n24 hs l8 hln w') (pvS_bd (Mi S (xb + 22)) l)
                have mB := mA.sw b2.1
                have q256 := p256 l8
                have bv := hbv (2 ^ l.length - 1) (by omega)
                rw [(t4 l8).2.1] at bv
                obtain ⟨eq1, eq2⟩ := BV_un bv b3
                have l16 : ldI T (some (xb + 16)) 15 (nI (2 ^ l.length - 1)) = some (mi T (xb + 16) (2 ^ l.length - 1)) := ldI_s (xK_ways xT) (xN_ways xT) (by omega) (by decide)
                have cbw := X_cBW xT hse.1 l8 (pvS_bd (Mi S (xb + 22)) l) (show i < 8 by omega) (show i' < 8 by omega) hwv hbv
                rw [eq1] at cbw
                have cb : f_X5_countBest T (xb + 12) = some (mi B (xb + 22) 65) := by
                  unfold f_X5_countBest
                  simp only [xR_ways xT, xV_joining xT, X_every xT hse.1 l8, l16, Option.bind_some, eq2]
                obtain ⟨D, hD⟩ : ∃ D, D = Dn (wtv (pvS (Mi S (xb + 22)) l)) (brS (Mi S (xb + 22)) l) i i' 8 (List.range l.length) (mi B (xb + 22) 64).toInt 0 := ⟨_, rfl⟩
                rw [← hD] at cbw
                have bD := b4 i i' i1 i1'
                rw [← hD] at bD
                have lr : (List.range l.length).length = l.length := List.length_range
                have big : (8 : Nat) ^ l.length ≤ 8 ^ 8 := Nat.pow_le_pow_right (by omega) l8
                have D31 : D < 2 ^ 31 := by
                  rw [hD, ← Dn_eq 8 (List.range l.length) _ (by rw [lr]; exact l8) List.nodup_range, Pn_fuel 8 (List.range l.length).length _ _ _ (by rw [lr]; exact l8) (Nat.le_refl _)]
                  have := Gn_le (c := cF (wtv (pvS (Mi S (xb + 22)) l)) (brS (Mi S (xb + 22)) l) i i') (List.range l.length) [] (mi B (xb + 22) 64).toInt 1 (by rw [lr]; show 0 + l.length ≤ 8; omega)
                  rw [lr] at this
                  exact Nat.lt_of_le_of_lt this (by omega)
                obtain ⟨v1, v2, -⟩ := b3
                have C31 : Pn (c0_ (wtv (pvS (Mi S (xb + 22)) l)) (brS (Mi S (xb + 22)) l)) 8 (List.range l.length) (mi B (xb + 22) 64).toInt 0 < 2 ^ 31 := by
                  rw [Pn_fuel 8 (List.range l.length).length _ _ _ (by rw [lr]; exact l8) (Nat.le_refl _)]
                  have := Gn_le (c := c0_ (wtv (pvS (Mi S (xb + 22)) l)) (brS (Mi S (xb + 22)) l)) (List.range l.length) [] (mi B (xb + 22) 64).toInt 0 (by rw [lr]; show 0 + l.length ≤ 8; omega)
                  rw [lr] at this
                  exact Nat.lt_of_le_of_lt this (by omega)
                have hX2 : f_X11_joined S xb x1 (nI p) (nI q) = (if nI D = 0 then some (0, T) else (if nI D = mi B (xb + 22) 65 then some (2, T) else some (1, T))) := by
                  rw [hX _ _ s1 s2, (bcount T (i := i) (k := i') (by omega) (by omega)).1, if_neg nii]
                  simp only [Option.bind_some, if_true, cbw, cb]
                have g57 := M_j57 (y3 := nI q) (y5 := 0) mB (fun k hk => by rw [(b2.1.2.2.2 (xb + 22 + 43) (by unfold PQ; omega)).1]; exact hs.2 k hk) l8 (fun i hi => by have := hln i hi; omega) (show p < 24 by omega) i1 i2 i3 i 0 FU (by omega) (by unfold FU; omega)
                have g74 := M_j74 (y4 := nI i) mB (fun k hk => by rw [(b2.1.2.2.2 (xb + 22 + 43) (by unfold PQ; omega)).1]; exact hs.2 k hk) l8 (fun i hi => by have := hln i hi; omega) (show q < 24 by omega) i1' i2' i3' i' 0 FU (by omega) (by unfold FU; omega)
                rw [nI_0] at g57 g74
                have ix : (8 : Int32) * nI i + nI i' = nI (8 * i + i') := by rw [show (8 : Int32) = nI 8 from rfl, pk_mul, nI_add]
                have hM2 : f_X12_joined T (xb + 22) x1 (nI p) (nI q) = (if nI D = mi B (xb + 22) 65 then some (2, B) else (if nI D ≤ 0 then some (0, B) else some (1, B))) := by
                  unfold f_X12_joined
                  simp only [mV mT, a1, Option.bind_some, mV mA, M_isPerson mA p1A (by omega) hp, M_isPerson mA p1A (by omega) hq, tp, tq, b1]
                  rw [if_neg (by decide), if_neg (by decide), if_neg (by decide), if_neg nepq, if_pos (mp.mp inp), if_neg (by decide), if_pos (mq.mp inq), if_neg (by decide), jd_go g57 g74]
                  simp only [mR_together mB, ix, mL_together mB (show 8 * i + i' < 64 by omega), bD, mI mB, Option.bind_some]
                rw [hX2]
                by_cases z : D = 0
                · have z1 : nI D = 0 := by rw [z]; exact nI_0
                  rw [if_pos z1]
                  refine ⟨_, _, rfl, B, ?_, h.jn w u b2⟩
                  rw [hM2, v2, if_neg (fun y => by
                    rw [nI_eq D31 C31] at y
                    omega), if_pos (by rw [z1]; decide)]
                · have z1 : ¬ nI D = 0 := fun y => z ((nI_eq D31 (by omega)).mp (y.trans nI_0.symm))
                  rw [if_neg z1]
                  by_cases z2 : nI D = mi B (xb + 22) 65
                  · rw [if_pos z2]
                    refine ⟨_, _, rfl, B, ?_, h.jn w u b2⟩
                    rw [hM2, if_pos z2]
                  · rw [if_neg z2]
                    refine ⟨_, _, rfl, B, ?_, h.jn w u b2⟩
                    rw [hM2, if_neg z2, if_neg (by rw [le_i, nI_toInt D31]; simp only [Int32.reduceToInt]; omega)]
          · exact absurd hk (hn X X0 X31 eX)
        · rcases hA with ⟨X', X0', X31', eX', hk', hs, a1⟩ | ⟨a1, -⟩
          · exact absurd hk' (hn X' X0' X31' eX')
          · refine ⟨-1, T, ?_, A, ?_, h.jn w u (JW.rf _ _)⟩
            · unfold f_X11_joined
              simp only [xV x, X_personAt x cp.2.2.1 kp hp, X_personAt x cp.2.2.1 kq hq, Option.bind_some, if_neg (show ¬ (some (pa p) = none) by simp), if_neg (show ¬ (some (pa q) = none) by simp), if_neg hne, e1, if_true]
            · unfold f_X12_joined
              simp only [mV mT, a1, Option.bind_some, if_true]
    · refine bad ?_ (fun A u => Or.inr ⟨M_isPerson (m.sw u.1) (hp2 A u) (by omega) hp, Or.inl (M_isPerson_n (m.sw u.1) (hp2 A u) (by omega) d2)⟩)
      unfold f_X11_joined
      simp only [xV x, X_personAt x cp.2.2.1 kp hp, X_personAt_n x cp.2.2.1 d2, Option.bind_some, if_neg (show ¬ (some (pa p) = none) by simp), if_true]
  · refine bad ?_ (fun A u => Or.inl (M_isPerson_n (m.sw u.1) (hp2 A u) (by omega) d1))
    unfold f_X11_joined
    rcases ixc x3 (n := np) (by omega) with ⟨q, hq, rfl⟩ | d2
    · simp only [xV x, X_personAt_n x cp.2.2.1 d1, X_personAt x cp.2.2.1 (cp.2.2.2 q hq).1 hq, Option.bind_some, if_true]
    · simp only [xV x, X_personAt_n x cp.2.2.1 d1, X_personAt_n x cp.2.2.1 d2, Option.bind_some, if_true]
