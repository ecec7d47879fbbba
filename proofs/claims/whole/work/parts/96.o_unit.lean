section Uni
variable {r la l mb n : Nat} {tb : Nat → Nat} {ts : List Tk} {f : Nat → Nat} {Tc Tm Ac Am : St} {c d : Nat} {C C1 : List Int32} {L L1 : List Sps} {Q Q' : List Sps → Prop}
theorem X_dep (h : PCr r la l ts f Tc c d C) (e : Nat) : CWr r la Tc (setI Tc r 8 (nI e)) ∧ PCr r la l ts f (setI Tc r 8 (nI e)) c e C := by
  obtain ⟨k, h1, h2, h3, h4, h5, h6, h7, h8, h9, h10, h11⟩ := h
  obtain ⟨n1, n2, n3⟩ := k.ne
  have w : CWr r la Tc (setI Tc r 8 (nI e)) := k.cr _ _
  have hO : ∀ g, g ≠ 8 → mi (setI Tc r 8 (nI e)) r g = mi Tc r g := fun g hg => by rw [mi_setI_i, if_neg (by omega)]
  refine ⟨w, k.sw w.1, h1, by rw [hO _ (by omega)]; exact h2, by rw [hO _ (by omega)]; exact h3, by rw [hO _ (by omega)]; exact h4, by rw [hO _ (by omega)]; exact h5, by rw [hO _ (by omega)]; exact h6, by rw [hO _ (by omega)]; exact h7, by rw [mi_setI_i, if_pos ⟨rfl, rfl⟩], ?_, h10, fun i hi => ?_⟩
  · rw [mi_setI_i, if_neg (by omega)]; exact h9
  · rw [mi_setI_i, if_neg (by omega)]; exact h11 i hi
theorem opens2 (hc : PCr r la l ts f Tc c d C) (hm : PMr mb tb n ts Tm c d L) (hs : (tkn ts c).1 ≠ 0) (hd : d < 8) : ∃ Tc0 Tc' Tm', f_X7_opens Tc r = some (1, Tc0) ∧ rcv Tc0 (some r) 8 = some r ∧ f_X7_advance Tc0 r = some Tc' ∧ f_X12_opens Tm mb = some (1, Tm') ∧ CWr r la Tc Tc' ∧ RWm mb Tm Tm' ∧ PCr r la l ts f Tc' (c + 1) (d + 1) C ∧ PMr mb tb n ts Tm' (c + 1) (d + 1) L := by
  obtain ⟨a1, a2⟩ := X_dep hc (d + 1)
  obtain ⟨b1, b2⟩ := M_dep hm (d + 1)
  obtain ⟨A, B, x1, y1, x2, y2, x3, y3, -⟩ := adv2 a2 b2 hs
  have g8 : getI Tc (some r) 8 8 = some (nI d) := by rw [getI_s hc.1.1, hc.2.2.2.2.2.2.2.2.1]
  have g52 : getI Tm (some mb) 13 52 = some (nI d) := by rw [mI hm.1.1, hm.2.2.2.2.2.2.2.2.1]
  refine ⟨setI Tc r 8 (nI (d + 1)), A, B, ?_, a2.1.rv, x1, ?_, a1.tr x2, b1.tr y2, x3, y3⟩
  · unfold f_X7_opens
    simp only [g8, Option.bind_some]
    rw [if_pos (by rw [lt_i, nI_toInt (by omega)]; simp only [Int32.reduceToInt]; omega)]
    simp only [nI_1, putI_s hc.1.1, Option.bind_some]
  · unfold f_X12_opens
    simp only [g52, Option.bind_some]
    rw [if_neg (by rw [eq_i, nI_toInt (by omega)]; simp only [Int32.reduceToInt]; omega)]
    simp only [nI_1, mP hm.1.1, Option.bind_some, b2.rv, y1]
theorem opens8 (hc : PCr r la l ts f Tc c 8 C) (hm : PMr mb tb n ts Tm c 8 L) : ∃ Tc' Tm', f_X7_opens Tc r = some (0, Tc') ∧ f_X12_opens Tm mb = some (0, Tm') ∧ CWr r la Tc Tc' ∧ RWm mb Tm Tm' ∧ FC r la l ts f Tc' 3 (nI (tkn ts c).2.1) ∧ mi Tm' mb 49 = 3 ∧ mi Tm' mb 50 = nI (tkn ts c).2.1 := by
  obtain ⟨A, B, x1, y1, x2, y2, x3, y3, y4⟩ := bad2 hc hm (x := 3) (by decide)
  have g8 : getI Tc (some r) 8 8 = some 8 := by rw [getI_s hc.1.1, hc.2.2.2.2.2.2.2.2.1]; rfl
  have g52 : getI Tm (some mb) 13 52 = some 8 := by rw [mI hm.1.1, hm.2.2.2.2.2.2.2.2.1]; rfl
  refine ⟨A, B, ?_, ?_, x2, y2, x3, y3, y4⟩
  · unfold f_X7_opens
    simp only [g8, Option.bind_some]
    rw [if_neg (by decide)]
    simp only [hc.1.rv, x1, Option.bind_some]
  · unfold f_X12_opens
    simp only [g52, Option.bind_some]
    rw [if_pos (by decide)]
    simp only [hm.rv, y1, Option.bind_some, zchk0]
theorem J_unit {ru : St → Nat → Option St} {gu : St → Nat → Option (Int32 × St)} (hd : d ≤ 8) (hT : d < 8 → NT r la l f mb tb n ts (fun T => f_X7_readTerms ru T r) (fun T => f_X12_sumUp gu T mb) (d + 1) (UP false (17 - 2 * d))) : NT r la l f mb tb n ts (fun T => f_X7_readUnit ru T r) (fun T => f_X12_unit gu T mb) d (UP false (17 - 2 * d)) := by
  intro Tc Tm c C L hc hm e4 e5
  show RS r la l f mb tb n ts Tc Tm c d C L (f_X7_readUnit ru Tc r) (f_X12_unit gu Tm mb) (UP false (17 - 2 * d))
  have h601 := hm.1.2.2.2.2
  have tx := hm.tx
  have hcl := hc.2.1
  have q3 : ¬ ((1 : Int32) = 0) := by decide
  by_cases s2 : (tkn ts c).1 = 2
  · have i1 : nI (tkn ts c).1 = 2 := by rw [s2]; rfl
    have i2 : nI (mc (tkn ts c).1) = 2 := by rw [s2]; rfl
    have g7 : getI Tc (some r) 8 7 = some (nI (tkn ts c).2.2.1) := by rw [getI_s hc.1.1, hc.2.2.2.2.2.2.2.1]
    have g48 := hm.g48 s2
    have hv0 : 0 ≤ (nI (tkn ts c).2.2.1).toInt := by rw [nI_toInt (by omega)]; omega
    obtain ⟨v, hv⟩ : ∃ v, v = nI (tkn ts c).2.2.1 := ⟨_, rfl⟩
    rw [← hv] at g7 g48 hv0
    obtain ⟨A, a1, a2, a3⟩ := X_code hc (by omega) v
    obtain ⟨B, b1, b2, b3⟩ := M_lay hm (by omega) 0 v
    have b1' : f_X12_lay Tm mb 0 v = some B := b1
    obtain ⟨A1, B1, x1, y1, x2, y2, x3, y3, x4⟩ := adv2 a3 b3 (by omega)
    refine Or.inl ⟨A1, B1, c + 1, [(0, v)], ?_, ?_, a2.tr x2, b2.tr y2, x3, y3, by show 1 + c ≤ c + 1; omega, fun t ht => ?_⟩
    · unfold f_X7_readUnit
      simp only [hc.gs, i1, eq_self, if_true, Option.bind_some, hc.1.gl, g7, hc.1.rl, a1, a3.1.rv, x1]
    · unfold f_X12_unit f_X12_unit_70 f_X12_unit_93
      simp only [hm.g46, i2, eq_self, if_true, Option.bind_some, if_neg (show ¬ ((2 : Int32) = 40) by decide), g48, hm.rv, b1', b3.rv, y1]
    · show (if t.length < 32 ∧ 0 ≤ v then some (false :: t) else none).bind _ = _
      rw [if_pos ⟨by omega, by rw [le_i]; exact hv0⟩]
      rfl
  · have m1 : ¬ nI (tkn ts c).1 = 2 := (hm.ct (s := 2) (by omega) s2).1
    have m2 : ¬ nI (mc (tkn ts c).1) = 2 := (hm.ct (s := 2) (by omega) s2).2
    by_cases sn : 10 ≤ (tkn ts c).1 ∧ (tkn ts c).1 ≤ 13
    · have lo : ¬ (nI (tkn ts c).1 < 10) := by rw [lt_i, nI_toInt (by omega)]; simp only [Int32.reduceToInt]; omega
      have hi : ¬ ((13 : Int32) < nI (tkn ts c).1) := by rw [lt_i, nI_toInt (by omega)]; simp only [Int32.reduceToInt]; omega
      have m201 := (mc_201 _ tx.2.1).mpr sn
      have m40 : ¬ nI (mc (tkn ts c).1) = 40 := (hm.ct (s := 22) (by omega) (by omega)).2
      obtain ⟨w, hw⟩ : ∃ w, w = mi Tm mb 48 := ⟨_, rfl⟩
      have g48 : getI Tm (some mb) 13 48 = some w := by rw [mI hm.1.1, hw]
      have tab : ∀ s, s < 27 → 10 ≤ s ∧ s ≤ 13 → (1 + nI (mc s)) - 201 = nI (s - 9) := by decide +kernel
      have tab2 : cStep ((tkn ts c).1 - 9, w) = [-nI (tkn ts c).1] ∧ ∀ t : List Bool, t.length < 32 → ty1 32 ((tkn ts c).1 - 9, w) t = some (false :: t) := by
        have : (tkn ts c).1 = 10 ∨ (tkn ts c).1 = 11 ∨ (tkn ts c).1 = 12 ∨ (tkn ts c).1 = 13 := by omega
        rcases this with z | z | z | z <;> rw [z]
        · exact ⟨rfl, fun t ht => if_pos ht⟩
        · exact ⟨rfl, fun t ht => if_pos ht⟩
        · exact ⟨rfl, fun t ht => if_pos ht⟩
        · exact ⟨rfl, fun t ht => if_pos ht⟩
      obtain ⟨A, a1, a2, a3⟩ := X_code hc (by omega) (-nI (tkn ts c).1)
      obtain ⟨B, b1, b2, b3⟩ := M_lay hm (by omega) ((tkn ts c).1 - 9) w
      obtain ⟨A1, B1, x1, y1, x2, y2, x3, y3, x4⟩ := adv2 a3 b3 (by omega)
      have e6 : [((tkn ts c).1 - 9, w)].flatMap cStep = [-nI (tkn ts c).1] := by rw [List.flatMap_cons, List.flatMap_nil, List.append_nil, tab2.1]
      refine Or.inl ⟨A1, B1, c + 1, [((tkn ts c).1 - 9, w)], ?_, ?_, a2.tr x2, b2.tr y2, by rw [e6]; exact x3, y3, by rw [e6]; show 1 + c ≤ c + 1; omega, fun t ht => ?_⟩
      · unfold f_X7_readUnit
        simp only [hc.gs, if_neg m1, if_neg lo, if_neg hi, Option.bind_some, hc.1.gl, hc.1.rl, a1, a3.1.rv, x1]
      · unfold f_X12_unit f_X12_unit_70 f_X12_unit_93
        simp only [hm.g46, if_neg m40, if_neg m2, if_pos m201, Option.bind_some, g48, hm.rv, tab _ tx.2.1 sn, b1, b3.rv, y1]
      · show (ty1 32 ((tkn ts c).1 - 9, w) t).bind _ = _
        rw [tab2.2 t (by omega)]
        rfl
    · have m201 : ¬ ((201 : Int32) ≤ nI (mc (tkn ts c).1)) := fun z => sn ((mc_201 _ tx.2.1).mp z)
      have body : f_X7_readUnit ru Tc r = f_X7_readUnit_63 ru Tc r := by
        unfold f_X7_readUnit
        simp only [hc.gs, if_neg m1, Option.bind_some]
        by_cases lo : (tkn ts c).1 < 10
        · rw [if_pos (by rw [lt_i, nI_toInt (by omega)]; simp only [Int32.reduceToInt]; omega)]
        · rw [if_neg (by rw [lt_i, nI_toInt (by omega)]; simp only [Int32.reduceToInt]; omega), if_pos (by rw [lt_i, nI_toInt (by omega)]; simp only [Int32.reduceToInt]; omega)]
      rw [body]
      unfold f_X7_readUnit_63 f_X12_unit
      by_cases s22 : (tkn ts c).1 = 22
      · have i1 : nI (tkn ts c).1 = 22 := by rw [s22]; rfl
        have i2 : nI (mc (tkn ts c).1) = 40 := by rw [s22]; rfl
        by_cases d8 : d < 8
        · obtain ⟨A0, A, B, a1, a0, a0', b1, a2, b2, a3, b3⟩ := opens2 hc hm (by omega) d8
          rcases hT d8 A B (c + 1) C L a3 b3 (by omega) (by omega) with ⟨A1, B1, c1, L1, u1, v1, u2, v2, u3, v3, u4, u5⟩ | ⟨A1, B1, fl, fp, u1, v1, u2, v2, u3, u4, u5⟩
          · have u1' : f_X7_readTerms ru A r = some A1 := u1
            have v1' : f_X12_sumUp gu B mb = some (1, B1) := v1
            have g8 : getI A1 (some r) 8 8 = some (nI (d + 1)) := by rw [getI_s u3.1.1, u3.2.2.2.2.2.2.2.2.1]
            obtain ⟨x1, x2⟩ := X_dep u3 d
            have sb1 : nI (d + 1) - 1 = nI d := by
              have z : nI (d + 1) - nI 1 = nI (d + 1 - 1) := pk_sub (show 1 ≤ d + 1 by omega)
              rw [Nat.add_sub_cancel] at z
              exact z
            by_cases s23 : (tkn ts c1).1 = 23
            · have j1 : nI (tkn ts c1).1 = 23 := by rw [s23]; rfl
              have j2 : nI (mc (tkn ts c1).1) = 41 := by rw [s23]; rfl
              obtain ⟨B2, y1, y2, y3⟩ := M_adv v3 (by omega)
              obtain ⟨A2, x3, x4, x5⟩ := X_adv x2 y3.2.1
              obtain ⟨y4, y5⟩ := M_dep y3 d
              have g52 : getI B2 (some mb) 13 52 = some (nI (d + 1)) := by rw [mI y3.1.1, y3.2.2.2.2.2.2.2.2.1]
              refine Or.inl ⟨A2, setI B2 mb 52 (nI d), c1 + 1, L1, ?_, ?_, ((a2.tr u2).tr x1).tr x4, ((b2.tr v2).tr y2).tr y4, x5, y5, by omega, u5⟩
              · simp only [hc.gs, i1, eq_self, if_true, Option.bind_some, hc.1.rv, a1, if_neg q3, a0, a0', a3.1.rv, u1', g8, sb1, putI_s u3.1.1, x2.1.rv, x2.gs, j1, x3]
              · unfold f_X12_need
                simp only [hm.g46, i2, eq_self, if_true, Option.bind_some, hm.rv, b1, if_neg q3, b3.rv, v1', v3.rv, v3.g46, j2, y1, g52, sb1, mP y3.1.1]
            · have j1 : ¬ nI (tkn ts c1).1 = 23 := (v3.ct (s := 23) (by omega) s23).1
              have j2 : ¬ nI (mc (tkn ts c1).1) = 41 := (v3.ct (s := 23) (by omega) s23).2
              obtain ⟨A2, x3, x4, x5⟩ := X_ref x2 (x := 1) (by decide)
              obtain ⟨B2, y1, y2, y3, y4⟩ := M_bad v3 1
              refine Or.inr ⟨A2, B2, 1, _, ?_, ?_, ((a2.tr u2).tr x1).tr x4, (b2.tr v2).tr y2, x5, y3, y4⟩
              · simp only [hc.gs, i1, eq_self, if_true, Option.bind_some, hc.1.rv, a1, if_neg q3, a0, a0', a3.1.rv, u1', g8, sb1, putI_s u3.1.1, x2.1.rv, x2.gs, if_neg j1, x3]
              · unfold f_X12_need
                simp only [hm.g46, i2, eq_self, if_true, Option.bind_some, hm.rv, b1, if_neg q3, b3.rv, v1', v3.rv, v3.g46, if_neg j2, y1, zchk0]
          · have u1' : f_X7_readTerms ru A r = some A1 := u1
            have v1' : f_X12_sumUp gu B mb = some (0, B1) := v1
            obtain ⟨x1, x2⟩ := F_set u3 8 rfl (mi A1 r 8 - 1)
            obtain ⟨A2, x3, x4, x5⟩ := F_ref x2 1
            refine Or.inr ⟨A2, B1, fl, fp, ?_, ?_, ((a2.tr u2).tr x1).tr x4, b2.tr v2, x5, u4, u5⟩
            · simp only [hc.gs, i1, eq_self, if_true, Option.bind_some, hc.1.rv, a1, if_neg q3, a0, a0', a3.1.rv, u1', getI_s u3.1.1 8, putI_s u3.1.1, x2.gs, if_neg (show ¬ ((1 : Int32) = 23) by decide), x2.1.rv, x3]
            · simp only [hm.g46, i2, eq_self, if_true, Option.bind_some, hm.rv, b1, if_neg q3, b3.rv, v1']
        · obtain rfl : d = 8 := by omega
          obtain ⟨A, B, a1, b1, a2, b2, a3, b3, b4⟩ := opens8 hc hm
          refine Or.inr ⟨A, B, 3, _, ?_, ?_, a2, b2, a3, b3, b4⟩
          · simp only [hc.gs, i1, eq_self, if_true, Option.bind_some, hc.1.rv, a1]
          · simp only [hm.g46, i2, eq_self, if_true, Option.bind_some, hm.rv, b1]
      · have i1 : ¬ nI (tkn ts c).1 = 22 := (hm.ct (s := 22) (by omega) s22).1
        have i2 : ¬ nI (mc (tkn ts c).1) = 40 := (hm.ct (s := 22) (by omega) s22).2
        obtain ⟨A, B, x1, y1, x2, y2, x3, y3, y4⟩ := bad2 hc hm (x := 1) (by decide)
        refine Or.inr ⟨A, B, 1, _, ?_, ?_, x2, y2, x3, y3, y4⟩
        · simp only [hc.gs, if_neg i1, Option.bind_some, hc.1.rv, x1]
        · simp only [hm.g46, if_neg i2, if_neg m2, if_neg m201, Option.bind_some, hm.rv, y1, zchk0]
theorem J_U : ∀ (D d : Nat), d ≤ 8 → 8 - d < D → NT r la l f mb tb n ts (fun T => r_X7_readUnit D T r) (fun T => r_X12_unit D T mb) d (UP false (17 - 2 * d)) := by
  intro D
  induction D with
  | zero => intro d h1 h2; omega
  | succ D ih =>
    intro d h1 h2
    refine J_unit (ru := r_X7_readUnit D) (gu := r_X12_unit D) h1 (fun h8 => ?_)
    have hD := ih (d + 1) (by omega) (by omega)
    have z := J_terms hD (by omega)
    rw [show 17 - 2 * (d + 1) + 2 = 17 - 2 * d by omega] at z
    exact z
theorem J_Terms (hd : d ≤ 8) : NT r la l f mb tb n ts (fun T => F_X7_readTerms T r) (fun T => F_X12_sumUp T mb) d (UP false (19 - 2 * d)) := by
  have z := J_terms (r := r) (la := la) (l := l) (f := f) (mb := mb) (tb := tb) (n := n) (ts := ts) (J_U 32 d hd (by omega)) (by omega)
  rw [show 17 - 2 * d + 2 = 19 - 2 * d by omega] at z
  exact z
end Uni
