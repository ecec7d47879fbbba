def RWo (mb : Nat) (T T' : St) : Prop := SW (Pr mb) T T' ∧ ∀ f, (f < 42 ∨ f = 44 ∨ f = 51 ∨ 54 ≤ f) → mi T' mb f = mi T mb f
section Aln
variable {r la l mb n x : Nat} {tb : Nat → Nat} {ts : List Tk} {f : Nat → Nat} {Tc Tm T T' U : St} {c d : Nat} {C C1 : List Int32} {L L1 : List Sps} {fl fp : Int32} {v : LawV} {W : List LnR} {w : LnR}
theorem RWo.rf (T : St) : RWo mb T T := ⟨SW.rf _ _, fun _ _ => rfl⟩
theorem RWo.tr (h : RWo mb T T') (k : RWo mb T' U) : RWo mb T U := ⟨h.1.tr k.1, fun g hg => (k.2 g hg).trans (h.2 g hg)⟩
theorem RWl.o (h : RWl mb x T T') : RWo mb T T' := ⟨h.1, h.2.1⟩
theorem J_inner (hc : PCr r la l ts f Tc c 0 C) (hv : LC Tc la v) (hm : PMr mb tb n ts Tm (c + 1) 0 L) (h30 : mi Tm (mb + 30) x = nI (tkn ts c).1) (h33 : mi Tm (mb + 33) x = nI L.length) (hx : x < 24) (hs : 3 ≤ (tkn ts c).1 ∧ (tkn ts c).1 ≤ 8) (e4 : C.length ≤ c) (e5 : L.length ≤ c) : INR r la l f mb tb n ts Tc Tm c x C L v := by
  have : (tkn ts c).1 = 3 ∨ (tkn ts c).1 = 4 ∨ (tkn ts c).1 = 5 ∨ (tkn ts c).1 = 6 ∨ (tkn ts c).1 = 7 ∨ (tkn ts c).1 = 8 := by omega
  rcases this with s | s | s | s | s | s
  · exact J_in3 hc hv hm h30 hx s
  · exact J_in4 hc hv hm h30 hx s
  · exact J_in5 hc hv hm h30 hx s
  · exact J_in6 hc hv hm h30 hx s
  · exact J_in7 hc hv hm h30 hx s
  · exact J_in8 hc hv hm h30 h33 hx s e4 e5
theorem FW.snoc (h : FW mb T W) (k : ∀ o, 30 ≤ o → o ≤ 34 → ∀ i, i ≠ W.length → mi T' (mb + o) i = mi T (mb + o) i) (hw : LR mb T' W.length (stW W) w) : FW mb T' (W ++ [w]) := by
  intro i hi
  have hi' : i < W.length + 1 := by rw [List.length_append] at hi; exact hi
  by_cases e : i = W.length
  · have e1 : (W ++ [w]).take i = W := by rw [e, List.take_left']; rfl
    have e2 : (W ++ [w]).getD i w0 = w := by
      have := getD_r W [w] w0 0
      rw [Nat.add_zero] at this
      rw [e, this]; rfl
    rw [e1, e2, e]
    exact hw
  · have e1 : (W ++ [w]).take i = W.take i := by rw [List.take_append_of_le_length (by omega)]
    rw [e1, getD_l _ _ _ (by omega)]
    obtain ⟨a1, a2, a3, a4⟩ := h i (by omega)
    refine ⟨by rw [k 30 (by omega) (by omega) i e]; exact a1, fun z => by rw [k 31 (by omega) (by omega) i e]; exact a2 z, fun z => by rw [k 32 (by omega) (by omega) i e]; exact a3 z, fun z => ⟨by rw [k 33 (by omega) (by omega) i e]; exact (a4 z).1, by rw [k 34 (by omega) (by omega) i e]; exact (a4 z).2⟩⟩
theorem J_line (hc : PCr r la l ts f Tc c 0 (cdW W)) (hv : LC Tc la (W.foldl stepL lw0)) (hm : PMr mb tb n ts Tm c d (stW W)) (hF : FW mb Tm W) (h42 : mi Tm mb 42 = nI W.length) (hx : W.length < 24) (hs : 3 ≤ (tkn ts c).1 ∧ (tkn ts c).1 ≤ 8) (e4 : (cdW W).length ≤ c) (e5 : (stW W).length ≤ c) : (∃ Tc' Tm' c' w, qx_line Tc r = some Tc' ∧ f_X12_aLine Tm mb = some (1, Tm') ∧ SW (Pc r la) Tc Tc' ∧ RWo mb Tm Tm' ∧ PCr r la l ts f Tc' c' 0 (cdW (W ++ [w])) ∧ LC Tc' la ((W ++ [w]).foldl stepL lw0) ∧ mi Tc' la 0 = mi Tc la 0 + 1 ∧ PMr mb tb n ts Tm' c' 0 (stW (W ++ [w])) ∧ FW mb Tm' (W ++ [w]) ∧ mi Tm' mb 42 = nI (W.length + 1) ∧ okW w ∧ c < c' ∧ (cdW (W ++ [w])).length ≤ c' ∧ (stW (W ++ [w])).length ≤ c') ∨ (∃ Tc' Tm' fl fp, qx_line Tc r = some Tc' ∧ f_X12_aLine Tm mb = some (0, Tm') ∧ SW (Pc r la) Tc Tc' ∧ RWo mb Tm Tm' ∧ FC r la l ts f Tc' fl fp ∧ mi Tm' mb 49 = fl ∧ mi Tm' mb 50 = fp) := by
  have q3 : ¬ ((1 : Int32) = 0) := by decide
  have tx := hm.tx
  have m := hm.1.1
  have mcs : mc (tkn ts c).1 = (tkn ts c).1 := by unfold mc; rw [if_pos (by omega)]
  have g46 : getI Tm (some mb) 13 46 = some (nI (tkn ts c).1) := by rw [hm.g46, mcs]
  obtain ⟨A, hA⟩ : ∃ A, A = setI Tm (mb + 30) W.length (nI (tkn ts c).1) := ⟨_, rfl⟩
  obtain ⟨pA, rA⟩ := hm.row (x := W.length) (o := 30) (by omega) (by omega) (nI (tkn ts c).1)
  rw [← hA] at pA rA
  have a43 : getI A (some mb) 13 43 = some (nI (stW W).length) := by rw [mI pA.1.1, pA.2.2.2.2.2.2.1]
  obtain ⟨B, hB⟩ : ∃ B, B = setI A (mb + 33) W.length (nI (stW W).length) := ⟨_, rfl⟩
  obtain ⟨pB, rB⟩ := pA.row (x := W.length) (o := 33) (by omega) (by omega) (nI (stW W).length)
  rw [← hB] at pB rB
  have b43 : getI B (some mb) 13 43 = some (nI (stW W).length) := by rw [mI pB.1.1, pB.2.2.2.2.2.2.1]
  obtain ⟨D, hD⟩ : ∃ D, D = setI B (mb + 34) W.length (nI (stW W).length) := ⟨_, rfl⟩
  obtain ⟨pD, rD⟩ := pB.row (x := W.length) (o := 34) (by omega) (by omega) (nI (stW W).length)
  rw [← hD] at pD rD
  obtain ⟨E, hE⟩ : ∃ E, E = setI D mb 52 (nI 0) := ⟨_, rfl⟩
  obtain ⟨rE, pE⟩ := M_dep pD 0
  rw [← hE] at pE rE
  obtain ⟨G, g1, g2, g3⟩ := M_adv pE (by omega)
  have hE' : E = setI D mb 52 0 := hE
  have rG : RWl mb W.length Tm G := (((rA.tr rB).tr rD).tr rE.wl).tr g2.wl
  have rowG : ∀ o, 30 ≤ o → o ≤ 34 → mi G (mb + o) = mi D (mb + o) := fun o h1 h2 => by rw [(g2.1.2.2.2 (mb + o) (by omega)).1, (rE.1.2.2.2 (mb + o) (by omega)).1]
  have G30 : mi G (mb + 30) W.length = nI (tkn ts c).1 := by rw [rowG 30 (by omega) (by omega), hD, mi_setI_i, if_neg (by omega), hB, mi_setI_i, if_neg (by omega), hA, mi_setI_i, if_pos ⟨rfl, rfl⟩]
  have G33 : mi G (mb + 33) W.length = nI (stW W).length := by rw [rowG 33 (by omega) (by omega), hD, mi_setI_i, if_neg (by omega), hB, mi_setI_i, if_pos ⟨rfl, rfl⟩]
  have G42 : mi G mb 42 = nI W.length := by rw [g2.2 42 (by omega), rE.2 42 (by omega), hD, mi_setI_i, if_neg (by omega), hB, mi_setI_i, if_neg (by omega), hA, mi_setI_i, if_neg (by omega)]; exact h42
  have g42 : getI Tm (some mb) 13 42 = some (nI W.length) := by rw [mI m, h42]
  have n24 : ¬ (nI W.length = 24) := by rw [eq_i, nI_toInt (by omega)]; simp only [Int32.reduceToInt]; omega
  have hin : f_X12_isIn Tm (nI (tkn ts c).1) 3 8 = some 1 := by
    unfold f_X12_isIn
    rw [if_neg (by rw [lt_i, nI_toInt (by omega)]; simp only [Int32.reduceToInt]; omega), if_neg (by rw [lt_i, nI_toInt (by omega)]; simp only [Int32.reduceToInt]; omega)]
  have pre : ∀ (v80 : Int32) S80, f_X12_inner G mb (nI W.length) = some (v80, S80) → MOK S80 mb → f_X12_aLine Tm mb = (if v80 = 0 then some (0, S80) else (getI S80 (some mb) 13 42).bind fun v90 => (putI S80 (some mb) 13 42 (v90 + 1)).bind fun S95 => (rcv S95 (some mb) 13).bind fun b101 => (f_X12_need S95 b101 59).bind fun (v101, S101) => (zchk v101).bind fun z104 => some (z104, S101)) := fun v80 S80 z1 z2 => by
    unfold f_X12_aLine
    simp only [g46, hin, Option.bind_some, if_neg q3, g42, if_neg n24, mR_freshSort m, mS_freshSort m hx, nrw15, ← hA, mR_freshFrom pA.1.1, a43, mS_freshFrom pA.1.1 (show W.length < 25 by omega), ← hB, mR_freshWhen pB.1.1, b43, mS_freshWhen pB.1.1 hx, ← hD, mP pD.1.1, ← hE', pE.rv, g1, g3.rv]
    exact bnd z1
  rcases J_inner hc hv g3 G30 G33 hx hs e4 e5 with ⟨A1, B1, c1, w, u1, v1, u2, v2, u3, u4, u5, v3, v4, v5, v6, v7, v8, v9⟩ | ⟨A1, B1, fl, fp, u1, v1, u2, v2, u3, u4, u5⟩
  · have ecd : cdW (W ++ [w]) = cdW W ++ cd1 w := by unfold cdW; rw [List.flatMap_append, List.flatMap_cons, List.flatMap_nil, List.append_nil]
    have est : stW (W ++ [w]) = stW W ++ st1 w := by unfold stW; rw [List.flatMap_append, List.flatMap_cons, List.flatMap_nil, List.append_nil]
    have efo : (W ++ [w]).foldl stepL lw0 = stepL (W.foldl stepL lw0) w := by rw [List.foldl_append]; rfl
    have lcd : (cdW (W ++ [w])).length = (cdW W).length + (cd1 w).length := by rw [ecd, List.length_append]
    have lst : (stW (W ++ [w])).length = (stW W).length + (st1 w).length := by rw [est, List.length_append]
    rw [← ecd] at u3
    rw [← est] at v3
    rw [← efo] at u4
    have b42 : getI B1 (some mb) 13 42 = some (nI W.length) := by rw [mI v3.1.1, v5, G42]
    obtain ⟨k1, k2⟩ := v3.fld (x := W.length) (k := 42) (Or.inl rfl) (nI (W.length + 1))
    obtain ⟨B2, hB2⟩ : ∃ B2, B2 = setI B1 mb 42 (nI (W.length + 1)) := ⟨_, rfl⟩
    rw [← hB2] at k1 k2
    have b42' : mi B2 mb 42 = nI (W.length + 1) := by rw [hB2, mi_setI_i, if_pos ⟨rfl, rfl⟩]
    have pu : putI B1 (some mb) 13 42 (nI W.length + 1) = some B2 := by rw [nI_1, mP v3.1.1, hB2]
    have rowB2 : ∀ o, 30 ≤ o → o ≤ 34 → mi B2 (mb + o) = mi B1 (mb + o) := fun o h1 h2 => by
      funext i
      rw [hB2, mi_setI_i, if_neg (by omega)]
    clear hB2
    by_cases s17 : (tkn ts c1).1 = 17
    · have j1 : nI (tkn ts c1).1 = 17 := by rw [s17]; rfl
      have j2 : nI (mc (tkn ts c1).1) = 59 := by rw [s17]; rfl
      obtain ⟨l1, l2⟩ := u3.law (a := la) (k := 0) (Or.inl ⟨rfl, by omega⟩) (mi A1 la 0 + 1)
      obtain ⟨D1, hD1⟩ : ∃ D1, D1 = setI A1 la 0 (mi A1 la 0 + 1) := ⟨_, rfl⟩
      have l3 : LC D1 la ((W ++ [w]).foldl stepL lw0) := by
        obtain ⟨y1, y2, y3, y4, y5, y6⟩ := u4
        rw [hD1]
        refine ⟨fun k hk => ?_, ?_, ?_, ?_, ?_, ?_⟩
        · rw [mi_setI_i, if_neg (by omega)]; exact y1 k hk
        · rw [mi_setI_i, if_neg (by omega)]; exact y2
        · rw [mi_setI_i, if_neg (by omega)]; exact y3
        · rw [mi_setI_i, if_neg (by omega)]; exact y4
        · rw [mi_setI_i, if_neg (by omega)]; exact y5
        · rw [mi_setI_i, if_neg (by omega)]; exact y6
      have l4 : mi D1 la 0 = mi A1 la 0 + 1 := by rw [hD1, mi_setI_i, if_pos ⟨rfl, rfl⟩]
      have l5 : putI A1 (some la) 7 0 (mi A1 la 0 + 1) = some D1 := by rw [putI_s u3.1.2.2.2.1, hD1]
      rw [← hD1] at l1 l2
      clear hD1
      obtain ⟨A2, B3, x1, y1, x2, y2, x3, y3, x4⟩ := adv2 l2 k1 (by omega)
      refine Or.inl ⟨A2, B3, c1 + 1, w, ?_, ?_, (u2.tr l1).tr x2.1, ((rG.tr v2).tr (k2.tr y2.wl)).o, x3, l3.cw x2, ?_, y3, ?_, ?_, v6, by omega, by omega, by omega⟩
      · rw [u1]
        unfold qx_end f_X7_closeLine
        simp only [u3.1.rv, u3.gs, j1, eq_self, if_true, u3.1.gl, getI_s u3.1.2.2.2.1, l5, l2.1.rv, x1, Option.bind_some]
      · rw [pre 1 B1 v1 v3.1.1, if_neg q3]
        unfold f_X12_need
        simp only [b42, pu, Option.bind_some, k1.rv, k1.g46, j2, eq_self, if_true, y1, zchk1]
      · rw [x2.2.1 _ (by omega), l4, u5]
      · refine hF.snoc (fun o h1 h2 i hi => ?_) ?_
        · rw [y2.wl.2.2 o h1 h2 i hi, rowB2 o h1 h2]
          exact (rG.tr v2).2.2 o h1 h2 i hi
        · have rr : ∀ o, 30 ≤ o → o ≤ 34 → mi B3 (mb + o) = mi B1 (mb + o) := fun o h1 h2 => by rw [(y2.1.2.2.2 (mb + o) (by omega)).1, rowB2 o h1 h2]
          obtain ⟨t1, t2, t3, t4⟩ := v4
          exact ⟨by rw [rr 30 (by omega) (by omega)]; exact t1, fun z => by rw [rr 31 (by omega) (by omega)]; exact t2 z, fun z => by rw [rr 32 (by omega) (by omega)]; exact t3 z, fun z => ⟨by rw [rr 33 (by omega) (by omega)]; exact (t4 z).1, by rw [rr 34 (by omega) (by omega)]; exact (t4 z).2⟩⟩
      · rw [y2.2 42 (by omega)]; exact b42'
    · have j1 : ¬ nI (tkn ts c1).1 = 17 := (v3.ct (s := 17) (by omega) s17).1
      have j2 : ¬ nI (mc (tkn ts c1).1) = 59 := (v3.ct (s := 17) (by omega) s17).2
      obtain ⟨A2, B3, x1, y1, x2, y2, x3, y3, y4⟩ := bad2 u3 k1 (x := 1) (by decide)
      refine Or.inr ⟨A2, B3, 1, _, ?_, ?_, u2.tr x2.1, ((rG.tr v2).tr (k2.tr y2.wl)).o, x3, y3, y4⟩
      · rw [u1]
        unfold qx_end f_X7_closeLine
        simp only [u3.1.rv, u3.gs, if_neg j1, x1, Option.bind_some]
      · rw [pre 1 B1 v1 v3.1.1, if_neg q3]
        unfold f_X12_need
        simp only [b42, pu, Option.bind_some, k1.rv, k1.g46, if_neg j2, y1, zchk0]
  · obtain ⟨A2, x1, x2, x3⟩ := F_163 A1 fl fp u3
    have x1' : qx_end A1 r = some A2 := x1
    refine Or.inr ⟨A2, B1, fl, fp, by rw [u1, x1'], ?_, u2.tr x2.1, (rG.tr v2).o, x3, u4, u5⟩
    rw [pre 0 B1 v1 (g3.1.1.sw v2.1), if_pos rfl]
end Aln
