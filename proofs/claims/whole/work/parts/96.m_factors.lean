section Fac
variable {r la l mb n : Nat} {tb : Nat → Nat} {ts : List Tk} {f : Nat → Nat} {Tc Tm Ac Am : St} {c d : Nat} {C C1 : List Int32} {L L1 : List Sps} {Q Q' : List Sps → Prop}
theorem PMr.rv (h : PMr mb tb n ts Tm c d L) : rcv Tm (some mb) 13 = some mb := mV h.1.1
theorem PMr.g46 (h : PMr mb tb n ts Tm c d L) : getI Tm (some mb) 13 46 = some (nI (mc (tkn ts c).1)) := by rw [mI h.1.1, h.2.2.2.1]
theorem PMr.g48 (h : PMr mb tb n ts Tm c d L) (hs : (tkn ts c).1 = 2) : getI Tm (some mb) 13 48 = some (nI (tkn ts c).2.2.1) := by rw [mI h.1.1, h.2.2.2.2.2.1 hs]
theorem PMr.ct (h : PMr mb tb n ts Tm c d L) {s : Nat} (hs : s < 27) (h2 : (tkn ts c).1 ≠ s) : ¬ nI (tkn ts c).1 = nI s ∧ ¬ nI (mc (tkn ts c).1) = nI (mc s) := ⟨fun z => h2 ((nI_e27 _ h.tx.2.1 s hs).mp z), fun z => h2 ((mc_eq _ h.tx.2.1 s hs).mp z)⟩
theorem J_fac6 {ru : St → Nat → Option St} {gu : St → Nat → Option (Int32 × St)} {q : Nat} (hu : NT r la l f mb tb n ts (fun T => ru T r) (fun T => gu T mb) d (UP false q)) (hf : FR r la l ts f (fun T => ru T r)) (hq : 1 ≤ q) : ∀ (N fu x : Nat) (Tc Tm : St) (c : Nat) (C : List Int32) (L : List Sps), ts.length - c ≤ N → N < fu → x ≤ c → PCr r la l ts f Tc c d C → PMr mb tb n ts Tm c d L → C.length ≤ c → L.length ≤ C.length → RS r la l f mb tb n ts Tc Tm c d C L (f_X7_readFactors_6 ru fu Tc r (nI x)) (f_X12_product_9 gu fu Tm mb) (UP1 false false (q + 1)) := by
  intro N
  induction N with
  | zero =>
    intro fu x Tc Tm c C L e1 e2 e3 hc hm
    have := hc.2.1
    omega
  | succ N ih =>
    intro fu x Tc Tm c C L e1 e2 e3 hc hm e4 e5
    obtain ⟨fu, rfl⟩ : ∃ k, fu = k + 1 := ⟨fu - 1, by omega⟩
    obtain ⟨fv, hfv⟩ : ∃ k, fu = k + 1 := ⟨fu - 1, by omega⟩
    have hcl := hc.2.1
    have h601 := hm.1.2.2.2.2
    have tx := hm.tx
    have nsz : ¬ (nI ts.length ≤ nI x) := nI_ge (by omega) (by omega)
    by_cases s20 : (tkn ts c).1 = 20
    · have i1 : nI (tkn ts c).1 = 20 := by rw [s20]; rfl
      have i2 : nI (mc (tkn ts c).1) = 42 := by rw [s20]; rfl
      obtain ⟨A, B, a1, b1, a2, b2, a3, b3, a4⟩ := adv2 hc hm (by omega)
      rcases hu A B (c + 1) C L a3 b3 (by omega) e5 with ⟨A1, B1, c1, L1, u1, v1, u2, v2, u3, v3, u4, u5⟩ | ⟨A1, B1, fl, fp, u1, v1, u2, v2, u3, u4, u5⟩
      · have u1' : ru A r = some A1 := u1
        have v1' : gu B mb = some (1, B1) := v1
        have ln1 : (C ++ L1.flatMap cStep).length < c1 := by rw [List.length_append]; omega
        have ln2 : (L ++ L1).length ≤ (C ++ L1.flatMap cStep).length := by
          rw [List.length_append, List.length_append]
          have := cS_len L1
          omega
        obtain ⟨A2, B2, x1, y1, x2, y2, x3, y3⟩ := lay2 u3 v3 ln1 ln2 7 0 (-20) rfl
        have y1' : f_X12_lay B1 mb 7 0 = some B2 := y1
        have ec : f_X7_readFactors_6 ru (fu + 1) Tc r (nI x) = f_X7_readFactors_6 ru fu A2 r (nI (x + 1)) := by
          rw [f_X7_readFactors_6]
          unfold f_X7_readFactors_35 f_X7_readFactors_71
          simp only [hc.1.g3, hc.1.r3, hc.1.sz, hc.gs, i1, eq_self, if_true, Option.bind_some, if_neg nsz, hc.1.rv, a1, a3.1.rv, u1', u3.1.gl, u3.1.rl, x1, nI_1]
        have em : f_X12_product_9 gu (fu + 1) Tm mb = f_X12_product_9 gu fu B2 mb := by
          rw [f_X12_product_9]
          unfold f_X12_product_27 f_X12_product_41
          simp only [hm.g46, i2, eq_self, if_true, Option.bind_some, hm.rv, b1, b3.rv, v1', v3.rv, y1', show ¬ ((42 : Int32) = 47) by decide, show ¬ ((1 : Int32) = 0) by decide, if_false]
        rw [ec, em]
        have e6 : C ++ (L1 ++ [(7, (0 : Int32))]).flatMap cStep = C ++ L1.flatMap cStep ++ [(7, (0 : Int32))].flatMap cStep := by rw [List.flatMap_append, List.append_assoc]
        have e7 : L ++ (L1 ++ [(7, (0 : Int32))]) = L ++ L1 ++ [(7, (0 : Int32))] := by rw [List.append_assoc]
        have e8 : ((L1 ++ [(7, (0 : Int32))]).flatMap cStep).length = (L1.flatMap cStep).length + 1 := by rw [List.flatMap_append, List.length_append]; rfl
        have e9 : (C ++ L1.flatMap cStep ++ [(7, (0 : Int32))].flatMap cStep).length = (C ++ L1.flatMap cStep).length + 1 := by rw [List.length_append]; rfl
        have e10 : (L ++ L1 ++ [(7, (0 : Int32))]).length = (L ++ L1).length + 1 := by rw [List.length_append]; rfl
        refine RS.pre (L1 := L1 ++ [(7, 0)]) (c1 := c1) (Q' := UP1 false false (q + 1)) ((a2.tr u2).tr x2) ((b2.tr v2).tr y2) (by omega) ?_ (fun L' hL' t ht => ?_)
        · rw [e6, e7]
          exact ih fu (x + 1) A2 B2 c1 _ _ (by omega) (by omega) (by omega) x3 y3 (by omega) (by omega)
        · rw [tyD_app, tyD_app, u5 (false :: t) (by show t.length + 1 + q ≤ 32; omega)]
          show tyD 32 L' (false :: t) = _
          exact hL' t ht
      · have u1' : ru A r = some A1 := u1
        have v1' : gu B mb = some (0, B1) := v1
        obtain ⟨A2, x1, x2, x3⟩ := F_code u3 (-20)
        refine Or.inr ⟨A2, B1, fl, fp, ?_, ?_, (a2.tr u2).tr x2, b2.tr v2, x3, u4, u5⟩
        · rw [f_X7_readFactors_6]
          unfold f_X7_readFactors_35 f_X7_readFactors_71
          simp only [hc.1.g3, hc.1.r3, hc.1.sz, hc.gs, i1, eq_self, if_true, Option.bind_some, if_neg nsz, hc.1.rv, a1, a3.1.rv, u1', u3.1.gl, u3.1.rl, x1, nI_1]
          rw [hfv]
          exact F_fac6 ru fv _ x3
        · rw [f_X12_product_9]
          unfold f_X12_product_27 f_X12_product_41
          simp only [hm.g46, i2, eq_self, if_true, Option.bind_some, hm.rv, b1, b3.rv, v1', show ¬ ((42 : Int32) = 47) by decide, if_false]
    · obtain ⟨m1, m2⟩ := hm.ct (s := 20) (by omega) s20
      have m1' : ¬ nI (tkn ts c).1 = 20 := m1
      have m2' : ¬ nI (mc (tkn ts c).1) = 42 := m2
      by_cases s21 : (tkn ts c).1 = 21
      · have i1 : nI (tkn ts c).1 = 21 := by rw [s21]; rfl
        have i2 : nI (mc (tkn ts c).1) = 47 := by rw [s21]; rfl
        obtain ⟨A, B, a1, b1, a2, b2, a3, b3, a4⟩ := adv2 hc hm (by omega)
        have q1 : ¬ ((21 : Int32) = 20) := by decide
        have q2 : ¬ ((47 : Int32) = 42) := by decide
        have q3 : ¬ ((1 : Int32) = 0) := by decide
        rcases X_num a3 b3 (x := 1) (y := 99999) (by decide) (by decide) with ⟨A1, u0, u1, u2, u3, u4, u5⟩ | ⟨A1, u0, u1, u3, u4, u5⟩ | ⟨A1, u0, u3, u4, u5⟩
        · have u3' : f_X7_takeNumber A r 1 99999 = some (nI (tkn ts (c + 1)).2.2.1, A1) := u3
          obtain ⟨v, hv⟩ : ∃ v, v = nI (tkn ts (c + 1)).2.2.1 := ⟨_, rfl⟩
          rw [← hv] at u3'
          obtain ⟨A2, x1, x2, x3⟩ := X_code u5 (by omega) v
          obtain ⟨A3, x4, x5, x6⟩ := X_code x3 (by rw [List.length_append]; show C.length + 1 < _; omega) (-21)
          obtain ⟨B1, y1, y2, y3⟩ := M_lay b3 (by omega) 8 v
          have y1' : f_X12_lay B mb 8 v = some B1 := y1
          obtain ⟨B2, y4, y5, y6⟩ := M_adv y3 (by omega)
          have g46 : nI (mc (tkn ts (c + 1)).1) = 2 := by rw [u0]; rfl
          have g48 := b3.g48 u0
          rw [← hv] at g48
          have vt : 1 ≤ v.toInt := by rw [hv, nI_toInt (by omega)]; omega
          have nz : ¬ (v = 0) := fun z => by rw [z] at vt; exact absurd vt (by decide)
          have ec : f_X7_readFactors_6 ru (fu + 1) Tc r (nI x) = f_X7_readFactors_6 ru fu A3 r (nI (x + 1)) := by
            rw [f_X7_readFactors_6]
            unfold f_X7_readFactors_35 f_X7_readFactors_71
            simp only [hc.1.g3, hc.1.r3, hc.1.sz, hc.gs, i1, eq_self, if_true, Option.bind_some, if_neg nsz, if_neg q1, hc.1.rv, a1, a3.1.gl, a3.1.rv, u3', u5.1.rl, x1, x3.1.gl, x3.1.rl, x4, nI_1]
          have em : f_X12_product_9 gu (fu + 1) Tm mb = f_X12_product_9 gu fu B2 mb := by
            rw [f_X12_product_9]
            unfold f_X12_product_27 f_X12_product_41
            simp only [hm.g46, i2, eq_self, if_true, Option.bind_some, hm.rv, b1, b3.g46, g46, if_neg q2, if_neg q3, g48, if_neg nz, b3.rv, y1', y3.rv, y4]
          rw [ec, em]
          have e6 : C ++ [(8, v)].flatMap cStep = C ++ [v] ++ [-21] := by rw [List.append_assoc]; rfl
          have e8 : ([(8, v)].flatMap cStep).length = 2 := rfl
          have e9 : (C ++ [v] ++ [-21]).length = C.length + 2 := by rw [List.length_append, List.length_append]; rfl
          have e10 : (L ++ [(8, v)]).length = L.length + 1 := by rw [List.length_append]; rfl
          refine RS.pre (L1 := [(8, v)]) (c1 := c + 1 + 1) (Q' := UP1 false false (q + 1)) (((a2.tr u4).tr x2).tr x5) ((b2.tr y2).tr y5) (by omega) ?_ (fun L' hL' t ht => ?_)
          · rw [e6]
            exact ih fu (x + 1) A3 B2 (c + 1 + 1) _ _ (by omega) (by omega) (by omega) x6 y6 (by omega) (by omega)
          · rw [tyD_app]
            have : tyD 32 [(8, v)] (false :: t) = some (false :: t) := by
              show (if t.length + 1 < 32 ∧ 0 < v then some (false :: t) else none).bind _ = _
              rw [if_pos ⟨by omega, by rw [lt_i]; simp only [Int32.reduceToInt]; omega⟩]
              rfl
            rw [this]
            exact hL' t ht
        · have u3' : f_X7_takeNumber A r 1 99999 = some (1, A1) := u3
          obtain ⟨A2, x1, x2, x3⟩ := F_code u5 1
          obtain ⟨A3, x4, x5, x6⟩ := F_code x3 (-21)
          obtain ⟨B1, y1, y2, y3, y4⟩ := M_bad b3 2
          have b100 := b3.tx.2.2.1
          have g46 : nI (mc (tkn ts (c + 1)).1) = 2 := by rw [u0]; rfl
          have g48 := b3.g48 u0
          have z0 : nI (tkn ts (c + 1)).2.2.1 = 0 := by rw [show (tkn ts (c + 1)).2.2.1 = 0 by omega]; rfl
          rw [z0] at g48
          refine Or.inr ⟨A3, B1, 2, _, ?_, ?_, ((a2.tr u4).tr x2).tr x5, b2.tr y2, x6, y3, y4⟩
          · rw [f_X7_readFactors_6]
            unfold f_X7_readFactors_35 f_X7_readFactors_71
            simp only [hc.1.g3, hc.1.r3, hc.1.sz, hc.gs, i1, eq_self, if_true, Option.bind_some, if_neg nsz, if_neg q1, hc.1.rv, a1, a3.1.gl, a3.1.rv, u3', u5.1.rl, x1, x3.1.gl, x3.1.rl, x4, nI_1]
            rw [hfv]
            exact F_fac6 ru fv _ x6
          · rw [f_X12_product_9]
            unfold f_X12_product_27 f_X12_product_41
            simp only [hm.g46, i2, eq_self, if_true, Option.bind_some, hm.rv, b1, b3.g46, g46, if_neg q2, if_neg q3, g48, b3.rv, y1, zchk0]
        · have u3' : f_X7_takeNumber A r 1 99999 = some (1, A1) := u3
          obtain ⟨A2, x1, x2, x3⟩ := F_code u5 1
          obtain ⟨A3, x4, x5, x6⟩ := F_code x3 (-21)
          obtain ⟨B1, y1, y2, y3, y4⟩ := M_bad b3 1
          have g46 : ¬ nI (mc (tkn ts (c + 1)).1) = 2 := (b3.ct (s := 2) (by omega) u0).2
          refine Or.inr ⟨A3, B1, 1, _, ?_, ?_, ((a2.tr u4).tr x2).tr x5, b2.tr y2, x6, y3, y4⟩
          · rw [f_X7_readFactors_6]
            unfold f_X7_readFactors_35 f_X7_readFactors_71
            simp only [hc.1.g3, hc.1.r3, hc.1.sz, hc.gs, i1, eq_self, if_true, Option.bind_some, if_neg nsz, if_neg q1, hc.1.rv, a1, a3.1.gl, a3.1.rv, u3', u5.1.rl, x1, x3.1.gl, x3.1.rl, x4, nI_1]
            rw [hfv]
            exact F_fac6 ru fv _ x6
          · rw [f_X12_product_9]
            unfold f_X12_product_27 f_X12_product_41
            simp only [hm.g46, i2, eq_self, if_true, Option.bind_some, hm.rv, b1, b3.g46, if_neg q2, if_neg q3, if_neg g46, b3.rv, y1, zchk0]
      · obtain ⟨m3, m4⟩ := hm.ct (s := 21) (by omega) s21
        have m3' : ¬ nI (tkn ts c).1 = 21 := m3
        have m4' : ¬ nI (mc (tkn ts c).1) = 47 := m4
        have ec : f_X7_readFactors_6 ru (fu + 1) Tc r (nI x) = some Tc := by
          rw [f_X7_readFactors_6]
          simp only [hc.1.g3, hc.1.r3, hc.1.sz, hc.gs, Option.bind_some, if_neg nsz, if_neg m1', if_neg m3']
        have em : f_X12_product_9 gu (fu + 1) Tm mb = some (1, Tm) := by
          rw [f_X12_product_9]
          simp only [hm.g46, Option.bind_some, if_neg m2', if_neg m4']
        rw [ec, em]
        exact RS.nil hc hm (fun t _ => rfl)
end Fac
