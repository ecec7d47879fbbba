section Inp
variable {r la l mb n x : Nat} {tb : Nat → Nat} {ts : List Tk} {f : Nat → Nat} {Tc Tm T T' U : St} {c d : Nat} {C C1 : List Int32} {L L1 : List Sps} {fl fp : Int32} {v : LawV} {W : List LnR} {w : LnR}
theorem J_in8 (hc : PCr r la l ts f Tc c 0 C) (hv : LC Tc la v) (hm : PMr mb tb n ts Tm (c + 1) 0 L) (h30 : mi Tm (mb + 30) x = nI (tkn ts c).1) (h33 : mi Tm (mb + 33) x = nI L.length) (hx : x < 24) (hs : (tkn ts c).1 = 8) (e4 : C.length ≤ c) (e5 : L.length ≤ c) : INR r la l f mb tb n ts Tc Tm c x C L v := by
  obtain ⟨A, a1, a2, a3⟩ := X_adv hc hm.2.1
  have i1 : nI (tkn ts c).1 = 8 := by rw [hs]; rfl
  have q3 : ¬ ((1 : Int32) = 0) := by decide
  have h601 := hm.1.2.2.2.2
  have hcl : ∀ A1 A2, F_X7_readTerms A r = some A1 → rcv A1 (some r) 8 = some r → f_X7_readCondition A1 r = some A2 → qx_line Tc r = qx_end A2 r := fun A1 A2 z1 z2 z3 => by
    unfold qx_line
    simp only [hc.gs, i1, hc.1.rv, a1, Option.bind_some]
    rw [if_pos (by decide)]
    simp only [a3.1.rv, z1, z2, z3, Option.bind_some]
  have hin : ∀ (o : Option (Int32 × St)), ((F_X12_sumUp Tm mb).bind fun (v88, S88) =>
      (if v88 = 0 then
      some (0, S88)
      else
      (getR S88 (some mb) 13 38).bind fun v97 =>
      (getI S88 (some mb) 13 43).bind fun v102 =>
      (stI S88 v97 15 (nI x) v102).bind fun S105 =>
      (getI S105 (some mb) 13 46).bind fun v107 =>
      (if v107 = 9 then
      (rcv S105 (some mb) 13).bind fun b118 =>
      (f_X12_next0 S105 b118).bind fun S118 =>
      (rcv S118 (some mb) 13).bind fun b122 =>
      (f_X12_any S118 b122).bind fun (v122, S122) =>
      (zchk v122).bind fun z125 =>
      some (z125, S122)
      else
      some (1, S105)))) = o → f_X12_inner Tm mb (nI x) = o := fun o z1 => by
    unfold f_X12_inner
    simp only [mR_freshSort hm.1.1, mL_freshSort hm.1.1 hx, h30, i1, Option.bind_some]
    rw [if_neg (by decide), if_neg (by decide), if_neg (by decide), if_neg (by decide), if_neg (by decide)]
    simp only [hm.rv, Option.bind_some]
    exact z1
  rcases J_Terms (d := 0) (by omega) A Tm (c + 1) C L a3 hm (by omega) (by omega) with ⟨A1, B1, c1, L1, u1, v1, u2, v2, u3, v3, u4, u5⟩ | ⟨A1, B1, fl, fp, u1, v1, u2, v2, u3, u4, u5⟩
  · have u1' : F_X7_readTerms A r = some A1 := u1
    have v1' : F_X12_sumUp Tm mb = some (1, B1) := v1
    have e11 : (C ++ L1.flatMap cStep).length = C.length + (L1.flatMap cStep).length := by rw [List.length_append]
    have e12 : (L ++ L1).length = L.length + L1.length := by rw [List.length_append]
    have e13 := cS_len L1
    have g43 : getI B1 (some mb) 13 43 = some (nI (L.length + L1.length)) := by rw [mI v3.1.1, v3.2.2.2.2.2.2.1, e12]
    obtain ⟨k1, k2⟩ := v3.row (x := x) (o := 34) (by omega) (by omega) (nI (L.length + L1.length))
    obtain ⟨B2, hB2⟩ : ∃ B2, B2 = setI B1 (mb + 34) x (nI (L.length + L1.length)) := ⟨_, rfl⟩
    have rowB : ∀ o, 30 ≤ o → o ≤ 33 → mi B2 (mb + o) x = mi Tm (mb + o) x := fun o h1 h2 => by rw [hB2, mi_setI_i, if_neg (by omega), (v2.1.2.2.2 (mb + o) (by omega)).1]
    have row34 : mi B2 (mb + 34) x = nI (L.length + L1.length) := by rw [hB2, mi_setI_i, if_pos ⟨rfl, rfl⟩]
    have f42 : mi B2 mb 42 = mi Tm mb 42 := by rw [hB2, mi_setI_i, if_neg (by omega), v2.2 42 (by omega)]
    have st34 : stI B1 (some (mb + 34)) 15 (nI x) (nI (L.length + L1.length)) = some B2 := by rw [mS_freshWhen v3.1.1 hx, nrw15, hB2]
    rw [← hB2] at k1 k2
    have k2' : RWl mb x Tm B2 := (v2.wl).tr k2
    clear hB2
    by_cases s9 : (tkn ts c1).1 = 9
    · have j1 : nI (tkn ts c1).1 = 9 := by rw [s9]; rfl
      have j2 : nI (mc (tkn ts c1).1) = 9 := by rw [s9]; rfl
      obtain ⟨A2, B3, x1, y1, x2, y2, x3, y3, x4⟩ := adv2 u3 k1 (by omega)
      have econ : ∀ A3, cT A2 r = Ec r A3 → f_X7_readCondition A1 r = f_X7_readCondition_146 A3 r := fun A3 t1 => by
        unfold f_X7_readCondition
        simp only [u3.gs, j1, eq_self, if_true, Option.bind_some, u3.1.rv, x1, x3.1.rv]
        exact t1
      have e146 : ∀ A3 A4 : St, KS r la l ts f A3 → f_X6_addCode A3 la (-9) = some A4 → f_X7_readCondition_146 A3 r = some A4 := fun A3 A4 t1 t2 => by
        unfold f_X7_readCondition_146
        simp only [t1.gl, t1.rl, t2, Option.bind_some]
      rcases J_tests x3 y3 (by omega) (by omega) with ⟨A3, B4, c3, L3, w1, z1, w2, z2, w3, z3, w4, w4', w6, w5⟩ | ⟨A3, B4, fl, fp, w1, z1, w2, z2, w3, w4, w5⟩
      · have z1' : f_X12_any B3 mb = some (1, B4) := z1
        have e14 : (C ++ L1.flatMap cStep ++ (nn L3).flatMap cStep).length = C.length + (L1.flatMap cStep).length + ((nn L3).flatMap cStep).length := by rw [List.length_append, List.length_append]
        have hc3 := w3.2.1
        obtain ⟨A4, x5, x6, x7⟩ := X_code w3 (by omega) (-9)
        have ne3 : L3 ≠ [] := fun z => by
          have := w5 [] (by show 0 + 22 ≤ 32; omega)
          rw [z] at this
          cases this
        have ecd : cd1 (8, 0, 0, L1, L3) = L1.flatMap cStep ++ ((nn L3).flatMap cStep ++ [-9]) := by
          show cLine (L1, L3) = _
          unfold cLine
          rw [if_neg ne3]
        have ecl : (cd1 (8, 0, 0, L1, L3)).length = (L1.flatMap cStep).length + (((nn L3).flatMap cStep).length + 1) := by rw [ecd, List.length_append, List.length_append]; rfl
        refine Or.inl ⟨A4, B4, c3, (8, 0, 0, L1, L3), hcl A1 A4 u1' u3.1.rv ((econ A3 w1).trans (e146 A3 A4 w3.1 x5)), hin _ ?_, (((a2.1.tr u2.1).tr x2.1).tr w2.1).tr x6.1, (k2'.tr y2.wl).tr z2.wl, ?_, ?_, ?_, ?_, ?_, ?_, Or.inr ⟨rfl, ?_⟩, by omega, by omega, ?_⟩
        · refine (bnd v1').trans ?_
          simp only [if_neg q3, mR_freshWhen v3.1.1, g43, st34, Option.bind_some, k1.g46, j2, eq_self, if_true, k1.rv, y1, y3.rv]
          refine (bnd z1').trans ?_
          rfl
        · rw [ecd, ← List.append_assoc, ← List.append_assoc]; exact x7
        · exact ((((hv.cw a2).cw u2).cw x2).cw w2).cw x6
        · rw [x6.2.1 _ (by omega), w2.2.1 _ (by omega), x2.2.1 _ (by omega), u2.2.1 _ (by omega), a2.2.1 _ (by omega)]
        · show PMr mb tb n ts B4 c3 0 (L ++ (L1 ++ L3))
          rw [← List.append_assoc]; exact z3
        · have rr : ∀ o, 30 ≤ o → o ≤ 34 → mi B4 (mb + o) = mi B2 (mb + o) := fun o h1 h2 => by rw [(z2.1.2.2.2 (mb + o) (by omega)).1, (y2.1.2.2.2 (mb + o) (by omega)).1]
          refine ⟨?_, fun z => absurd rfl z, fun z => by omega, fun _ => ⟨?_, ?_⟩⟩
          · rw [rr 30 (by omega) (by omega), rowB 30 (by omega) (by omega), h30, hs]
          · rw [rr 33 (by omega) (by omega), rowB 33 (by omega) (by omega), h33]
          · rw [rr 34 (by omega) (by omega), row34]
        · rw [z2.2 42 (by omega), y2.2 42 (by omega), f42]
        · exact ⟨u5 [] (by show 0 + _ ≤ 32; omega), Or.inr ⟨w5 [] (by show 0 + 22 ≤ 32; omega), w5 [false] (by show 1 + 22 ≤ 32; omega)⟩⟩
        · show (L1 ++ L3).length + c ≤ _
          rw [List.length_append]; omega
      · have z1' : f_X12_any B3 mb = some (0, B4) := z1
        obtain ⟨A4, x5, x6, x7⟩ := F_code w3 (-9)
        refine Or.inr ⟨A4, B4, fl, fp, hcl A1 A4 u1' u3.1.rv ((econ A3 w1).trans (e146 A3 A4 w3.1 x5)), hin _ ?_, (((a2.1.tr u2.1).tr x2.1).tr w2.1).tr x6.1, (k2'.tr y2.wl).tr z2.wl, x7, w4, w5⟩
        · refine (bnd v1').trans ?_
          simp only [if_neg q3, mR_freshWhen v3.1.1, g43, st34, Option.bind_some, k1.g46, j2, eq_self, if_true, k1.rv, y1, y3.rv]
          refine (bnd z1').trans ?_
          rfl
    · have j1 : ¬ nI (tkn ts c1).1 = 9 := (v3.ct (s := 9) (by omega) s9).1
      have j2 : ¬ nI (mc (tkn ts c1).1) = 9 := (v3.ct (s := 9) (by omega) s9).2
      have hc1 := u3.2.1
      obtain ⟨A4, x5, x6, x7⟩ := X_code u3 (by omega) (-8)
      have ecd : cd1 (8, 0, 0, L1, []) = L1.flatMap cStep ++ [-8] := by
        show cLine (L1, []) = _
        unfold cLine
        rw [if_pos rfl]
      have ecl : (cd1 (8, 0, 0, L1, [])).length = (L1.flatMap cStep).length + 1 := by rw [ecd, List.length_append]; rfl
      refine Or.inl ⟨A4, B2, c1, (8, 0, 0, L1, []), hcl A1 A4 u1' u3.1.rv ?_, hin _ ?_, (a2.1.tr u2.1).tr x6.1, k2', ?_, ?_, ?_, ?_, ?_, f42, Or.inr ⟨rfl, u5 [] (by show 0 + _ ≤ 32; omega), Or.inl rfl⟩, by omega, by omega, ?_⟩
      · unfold f_X7_readCondition
        simp only [u3.gs, if_neg j1, Option.bind_some, u3.1.gl, u3.1.rl, x5]
      · refine (bnd v1').trans ?_
        simp only [if_neg q3, mR_freshWhen v3.1.1, g43, st34, Option.bind_some, k1.g46, if_neg j2]
      · rw [ecd, ← List.append_assoc]; exact x7
      · exact ((hv.cw a2).cw u2).cw x6
      · rw [x6.2.1 _ (by omega), u2.2.1 _ (by omega), a2.2.1 _ (by omega)]
      · show PMr mb tb n ts B2 c1 0 (L ++ (L1 ++ []))
        rw [List.append_nil]; exact k1
      · refine ⟨?_, fun z => absurd rfl z, fun z => by omega, fun _ => ⟨?_, row34⟩⟩
        · rw [rowB 30 (by omega) (by omega), h30, hs]
        · rw [rowB 33 (by omega) (by omega), h33]
      · show (L1 ++ []).length + c ≤ _
        rw [List.append_nil]; omega
  · have u1' : F_X7_readTerms A r = some A1 := u1
    have v1' : F_X12_sumUp Tm mb = some (0, B1) := v1
    obtain ⟨A4, x5, x6, x7⟩ := F_cond A1 fl fp u3
    have x5' : f_X7_readCondition A1 r = some A4 := x5
    refine Or.inr ⟨A4, B1, fl, fp, hcl A1 A4 u1' u3.1.rv x5', hin _ ?_, (a2.1.tr u2.1).tr x6.1, v2.wl, x7, u4, u5⟩
    exact (bnd v1').trans (if_pos rfl)
end Inp
