section Tst
variable {r la l mb n : Nat} {tb : Nat → Nat} {ts : List Tk} {f : Nat → Nat} {Tc Tm Ac Am : St} {c d : Nat} {C C1 : List Int32} {L L1 : List Sps} {Q Q' : List Sps → Prop}
theorem J_test {ru : St → Nat → Option St} {gu : St → Nat → Option (Int32 × St)} (hd : d ≤ 8) (hT : d < 8 → NT r la l f mb tb n ts (fun T => ru T r) (fun T => gu T mb) (d + 1) (UP true (18 - 2 * d))) (hfT : d < 8 → FR r la l ts f (fun T => ru T r)) : NT r la l f mb tb n ts (fun T => f_X7_readTest ru T r) (fun T => f_X12_one gu T mb) d (UP true (20 - 2 * d)) := by
  intro Tc Tm c C L hc hm e4 e5
  show RS r la l f mb tb n ts Tc Tm c d C L (f_X7_readTest ru Tc r) (f_X12_one gu Tm mb) (UP true (20 - 2 * d))
  have h601 := hm.1.2.2.2.2
  have tx := hm.tx
  have hcl := hc.2.1
  have q3 : ¬ ((1 : Int32) = 0) := by decide
  unfold f_X7_readTest f_X12_one
  by_cases s16 : (tkn ts c).1 = 16
  · have i1 : nI (tkn ts c).1 = 16 := by rw [s16]; rfl
    have i2 : nI (mc (tkn ts c).1) = 12 := by rw [s16]; rfl
    by_cases d8 : d < 8
    · obtain ⟨A0, A, B, a1, a0, a0', b1, a2, b2, a3, b3⟩ := opens2 hc hm (by omega) d8
      rcases hT d8 A B (c + 1) C L a3 b3 (by omega) e5 with ⟨A1, B1, c1, L1, u1, v1, u2, v2, u3, v3, u4, u5⟩ | ⟨A1, B1, fl, fp, u1, v1, u2, v2, u3, u4, u5⟩
      · have u1' : ru A r = some A1 := u1
        have v1' : gu B mb = some (1, B1) := v1
        have ln1 : (C ++ L1.flatMap cStep).length < c1 := by rw [List.length_append]; omega
        have ln2 : (L ++ L1).length ≤ (C ++ L1.flatMap cStep).length := by
          rw [List.length_append, List.length_append]
          have := cS_len L1
          omega
        have g8 : getI A1 (some r) 8 8 = some (nI (d + 1)) := by rw [getI_s u3.1.1, u3.2.2.2.2.2.2.2.2.1]
        have g52 : getI B1 (some mb) 13 52 = some (nI (d + 1)) := by rw [mI v3.1.1, v3.2.2.2.2.2.2.2.2.1]
        obtain ⟨x1, x2⟩ := X_dep u3 d
        obtain ⟨y1, y2⟩ := M_dep v3 d
        have sb1 : nI (d + 1) - 1 = nI d := by
          have z : nI (d + 1) - nI 1 = nI (d + 1 - 1) := pk_sub (show 1 ≤ d + 1 by omega)
          rw [Nat.add_sub_cancel] at z
          exact z
        obtain ⟨A2, B2, x3, y3, x4, y4, x5, y5⟩ := lay2 x2 y2 ln1 ln2 12 0 (-16) rfl
        have y3' : f_X12_lay (setI B1 mb 52 (nI d)) mb 12 0 = some B2 := y3
        refine Or.inl ⟨A2, B2, c1, L1 ++ [(12, 0)], ?_, ?_, ((a2.tr u2).tr x1).tr x4, ((b2.tr v2).tr y1).tr y4, ?_, ?_, ?_, fun t ht => ?_⟩
        · simp only [hc.gs, i1, eq_self, if_true, Option.bind_some, hc.1.rv, a1, if_neg q3, a0, a0', a3.1.rv, u1', g8, sb1, putI_s u3.1.1, x2.1.gl, x2.1.rl, x3]
        · simp only [hm.g46, i2, eq_self, if_true, Option.bind_some, hm.rv, b1, if_neg q3, b3.rv, v1', g52, sb1, mP v3.1.1, y2.rv, y3']
        · rw [List.flatMap_append, ← List.append_assoc]; exact x5
        · rw [← List.append_assoc]; exact y5
        · rw [List.flatMap_append, List.length_append]; show _ + 1 + c ≤ c1; omega
        · rw [tyD_app, u5 t (by omega)]; rfl
      · have u1' : ru A r = some A1 := u1
        have v1' : gu B mb = some (0, B1) := v1
        obtain ⟨x1, x2⟩ := F_set u3 8 rfl (mi A1 r 8 - 1)
        obtain ⟨A2, x3, x4, x5⟩ := F_code x2 (-16)
        refine Or.inr ⟨A2, B1, fl, fp, ?_, ?_, ((a2.tr u2).tr x1).tr x4, b2.tr v2, x5, u4, u5⟩
        · simp only [hc.gs, i1, eq_self, if_true, Option.bind_some, hc.1.rv, a1, if_neg q3, a0, a0', a3.1.rv, u1', getI_s u3.1.1, putI_s u3.1.1, x2.1.gl, x2.1.rl, x3]
        · simp only [hm.g46, i2, eq_self, if_true, Option.bind_some, hm.rv, b1, if_neg q3, b3.rv, v1']
    · obtain rfl : d = 8 := by omega
      obtain ⟨A, B, a1, b1, a2, b2, a3, b3, b4⟩ := opens8 hc hm
      refine Or.inr ⟨A, B, 3, _, ?_, ?_, a2, b2, a3, b3, b4⟩
      · simp only [hc.gs, i1, eq_self, if_true, Option.bind_some, hc.1.rv, a1]
      · simp only [hm.g46, i2, eq_self, if_true, Option.bind_some, hm.rv, b1]
  · have m1 : ¬ nI (tkn ts c).1 = 16 := (hm.ct (s := 16) (by omega) s16).1
    have m2 : ¬ nI (mc (tkn ts c).1) = 12 := (hm.ct (s := 16) (by omega) s16).2
    rcases J_Terms hd Tc Tm c C L hc hm e4 e5 with ⟨A1, B1, c1, L1, u1, v1, u2, v2, u3, v3, u4, u5⟩ | ⟨A1, B1, fl, fp, u1, v1, u2, v2, u3, u4, u5⟩
    · have u1' : F_X7_readTerms Tc r = some A1 := u1
      have v1' : F_X12_sumUp Tm mb = some (1, B1) := v1
      have ln1 : (C ++ L1.flatMap cStep).length ≤ c1 := by rw [List.length_append]; omega
      have ln2 : (L ++ L1).length ≤ (C ++ L1.flatMap cStep).length := by
        rw [List.length_append, List.length_append]
        have := cS_len L1
        omega
      have tx1 := v3.tx
      by_cases sc : 24 ≤ (tkn ts c1).1 ∧ (tkn ts c1).1 ≤ 26
      · have lo : ¬ (nI (tkn ts c1).1 < 24) := by rw [lt_i, nI_toInt (by omega)]; simp only [Int32.reduceToInt]; omega
        have hi : nI (tkn ts c1).1 ≤ 26 := by rw [le_i, nI_toInt (by omega)]; simp only [Int32.reduceToInt]; omega
        obtain ⟨k, hk⟩ : ∃ k, k = (tkn ts c1).1 - 15 := ⟨_, rfl⟩
        have tabc : cStep (k, 0) = [-nI (tkn ts c1).1] ∧ ∀ t : List Bool, ty1 32 (k, 0) (false :: false :: t) = some (true :: t) := by
          rw [hk]
          have : (tkn ts c1).1 = 24 ∨ (tkn ts c1).1 = 25 ∨ (tkn ts c1).1 = 26 := by omega
          rcases this with z | z | z <;> rw [z] <;> exact ⟨rfl, fun t => rfl⟩
        have tabm : (if nI (mc (tkn ts c1).1) = 60 then f_X12_one_96 gu B1 mb 9 else (if nI (mc (tkn ts c1).1) = 61 then f_X12_one_96 gu B1 mb 10 else (if nI (mc (tkn ts c1).1) = 62 then f_X12_one_96 gu B1 mb 11 else f_X12_one_96 gu B1 mb (-1)))) = f_X12_one_96 gu B1 mb (nI k) := by
          rw [hk]
          have : (tkn ts c1).1 = 24 ∨ (tkn ts c1).1 = 25 ∨ (tkn ts c1).1 = 26 := by omega
          rcases this with z | z | z <;> rw [z]
          · rw [if_pos (by decide)]; rfl
          · rw [if_neg (by decide), if_pos (by decide)]; rfl
          · rw [if_neg (by decide), if_neg (by decide), if_pos (by decide)]; rfl
        have kn : ¬ (nI k = -1) := nI_ne1 (by omega)
        obtain ⟨A2, B2, x1, y1, x2, y2, x3, y3, x4⟩ := adv2 u3 v3 (by omega)
        rcases J_Terms hd A2 B2 (c1 + 1) _ _ x3 y3 (by omega) ln2 with ⟨A3, B3, c3, L3, w1, z1, w2, z2, w3, z3, w4, w5⟩ | ⟨A3, B3, fl, fp, w1, z1, w2, z2, w3, w4, w5⟩
        · have w1' : F_X7_readTerms A2 r = some A3 := w1
          have z1' : F_X12_sumUp B2 mb = some (1, B3) := z1
          have ln3 : (C ++ L1.flatMap cStep ++ L3.flatMap cStep).length < c3 := by rw [List.length_append]; omega
          have ln4 : (L ++ L1 ++ L3).length ≤ (C ++ L1.flatMap cStep ++ L3.flatMap cStep).length := by
            rw [List.length_append, List.length_append (as := C ++ L1.flatMap cStep)]
            have := cS_len L3
            omega
          obtain ⟨A4, B4, x5, y5, x6, y6, x7, y7⟩ := lay2 w3 z3 ln3 ln4 k 0 _ tabc.1
          have e0 : ([(k, (0 : Int32))].flatMap cStep).length = 1 := by rw [List.flatMap_cons, List.flatMap_nil, List.append_nil, tabc.1]; rfl
          refine Or.inl ⟨A4, B4, c3, L1 ++ L3 ++ [(k, 0)], ?_, ?_, ((u2.tr x2).tr w2).tr x6, ((v2.tr y2).tr z2).tr y6, ?_, ?_, ?_, fun t ht => ?_⟩
          · simp only [hc.gs, if_neg m1, Option.bind_some, hc.1.rv, u1', u3.gs, if_neg lo, if_pos hi, u3.1.rv, x1, x3.1.rv, w1', w3.1.gl, w3.1.rl, x5]
          · simp only [hm.g46, if_neg m2, Option.bind_some, hm.rv, v1', if_neg q3, v3.g46]
            rw [tabm]
            unfold f_X12_one_96
            simp only [if_neg kn, v3.rv, y1, Option.bind_some, y3.rv, z1', if_neg q3, z3.rv, y5]
          · rw [List.flatMap_append, List.flatMap_append, ← List.append_assoc, ← List.append_assoc]; exact x7
          · rw [← List.append_assoc, ← List.append_assoc]; exact y7
          · rw [List.flatMap_append, List.flatMap_append, List.length_append, List.length_append, e0]; omega
          · rw [tyD_app, tyD_app, u5 t (by omega)]
            show ((tyD 32 L3 (false :: t)).bind _) = _
            rw [w5 (false :: t) (by show t.length + 1 + _ ≤ 32; omega)]
            show (ty1 32 (k, 0) (false :: false :: t)).bind _ = _
            rw [tabc.2 t]
            rfl
        · have w1' : F_X7_readTerms A2 r = some A3 := w1
          have z1' : F_X12_sumUp B2 mb = some (0, B3) := z1
          obtain ⟨A4, x5, x6, x7⟩ := F_code w3 (-nI (tkn ts c1).1)
          refine Or.inr ⟨A4, B3, fl, fp, ?_, ?_, ((u2.tr x2).tr w2).tr x6, (v2.tr y2).tr z2, x7, w4, w5⟩
          · simp only [hc.gs, if_neg m1, Option.bind_some, hc.1.rv, u1', u3.gs, if_neg lo, if_pos hi, u3.1.rv, x1, x3.1.rv, w1', w3.1.gl, w3.1.rl, x5]
          · simp only [hm.g46, if_neg m2, Option.bind_some, hm.rv, v1', if_neg q3, v3.g46]
            rw [tabm]
            unfold f_X12_one_96
            simp only [if_neg kn, v3.rv, y1, Option.bind_some, y3.rv, z1', if_true]
      · have n24 : ¬ nI (mc (tkn ts c1).1) = 60 := (v3.ct (s := 24) (by omega) (by omega)).2
        have n25 : ¬ nI (mc (tkn ts c1).1) = 61 := (v3.ct (s := 25) (by omega) (by omega)).2
        have n26 : ¬ nI (mc (tkn ts c1).1) = 62 := (v3.ct (s := 26) (by omega) (by omega)).2
        have lo : nI (tkn ts c1).1 < 24 := by rw [lt_i, nI_toInt (by omega)]; simp only [Int32.reduceToInt]; omega
        obtain ⟨A2, B2, x1, y1, x2, y2, x3, y3, y4⟩ := bad2 u3 v3 (x := 1) (by decide)
        refine Or.inr ⟨A2, B2, 1, _, ?_, ?_, u2.tr x2, v2.tr y2, x3, y3, y4⟩
        · unfold f_X7_readTest_65
          simp only [hc.gs, if_neg m1, Option.bind_some, hc.1.rv, u1', u3.gs, if_pos lo, u3.1.rv, x1]
        · unfold f_X12_one_96
          simp only [hm.g46, if_neg m2, Option.bind_some, hm.rv, v1', if_neg q3, v3.g46, if_neg n24, if_neg n25, if_neg n26, if_true, v3.rv, y1, zchk0]
    · have u1' : F_X7_readTerms Tc r = some A1 := u1
      have v1' : F_X12_sumUp Tm mb = some (0, B1) := v1
      obtain ⟨A2, x1, x2, x3⟩ := F_ref u3 1
      refine Or.inr ⟨A2, B1, fl, fp, ?_, ?_, u2.tr x2, v2, x3, u4, u5⟩
      · unfold f_X7_readTest_65
        simp only [hc.gs, if_neg m1, Option.bind_some, hc.1.rv, u1', u3.gs]
        rw [if_pos (by decide)]
        simp only [u3.1.rv, x1, Option.bind_some]
      · simp only [hm.g46, if_neg m2, Option.bind_some, hm.rv, v1', if_true]
theorem F_rT (D : Nat) : FR r la l ts f (fun T => r_X7_readTest (D + 1) T r) := F_test _
theorem J_T : ∀ (D d : Nat), d ≤ 8 → 8 - d < D → NT r la l f mb tb n ts (fun T => r_X7_readTest D T r) (fun T => r_X12_one D T mb) d (UP true (20 - 2 * d)) := by
  intro D
  induction D with
  | zero => intro d h1 h2; omega
  | succ D ih =>
    intro d h1 h2
    refine J_test (ru := r_X7_readTest D) (gu := r_X12_one D) h1 (fun h8 => ?_) (fun h8 => ?_)
    · have z := ih (d + 1) (by omega) (by omega)
      rw [show 20 - 2 * (d + 1) = 18 - 2 * d by omega] at z
      exact z
    · obtain ⟨D', hD'⟩ : ∃ k, D = k + 1 := ⟨D - 1, by omega⟩
      rw [hD']
      exact F_rT D'
theorem J_Test (hd : d ≤ 8) : NT r la l f mb tb n ts (fun T => F_X7_readTest T r) (fun T => F_X12_one T mb) d (UP true (20 - 2 * d)) := J_T 32 d hd (by omega)
end Tst
