section Ter
variable {r la l mb n : Nat} {tb : Nat → Nat} {ts : List Tk} {f : Nat → Nat} {Tc Tm Ac Am : St} {c d : Nat} {C C1 : List Int32} {L L1 : List Sps} {Q Q' : List Sps → Prop}
theorem J_factors {ru : St → Nat → Option St} {gu : St → Nat → Option (Int32 × St)} {q : Nat} (hu : NT r la l f mb tb n ts (fun T => ru T r) (fun T => gu T mb) d (UP false q)) (hf : FR r la l ts f (fun T => ru T r)) (hq : 1 ≤ q) : NT r la l f mb tb n ts (fun T => f_X7_readFactors ru T r) (fun T => f_X12_product gu T mb) d (UP false (q + 1)) := by
  intro Tc Tm c C L hc hm e4 e5
  show RS r la l f mb tb n ts Tc Tm c d C L (f_X7_readFactors ru Tc r) (f_X12_product gu Tm mb) (UP false (q + 1))
  have h601 := hm.1.2.2.2.2
  have q3 : ¬ ((1 : Int32) = 0) := by decide
  unfold f_X7_readFactors f_X12_product
  rcases hu Tc Tm c C L hc hm e4 e5 with ⟨A1, B1, c1, L1, u1, v1, u2, v2, u3, v3, u4, u5⟩ | ⟨A1, B1, fl, fp, u1, v1, u2, v2, u3, u4, u5⟩
  · have u1' : ru Tc r = some A1 := u1
    have v1' : gu Tm mb = some (1, B1) := v1
    have ln1 : (C ++ L1.flatMap cStep).length ≤ c1 := by rw [List.length_append]; omega
    have ln2 : (L ++ L1).length ≤ (C ++ L1.flatMap cStep).length := by
      rw [List.length_append, List.length_append]
      have := cS_len L1
      omega
    simp only [hc.1.rv, hm.rv, u1', v1', Option.bind_some, if_neg q3]
    refine RS.pre (L1 := L1) (c1 := c1) (Q' := UP1 false false (q + 1)) u2 v2 (by omega) ?_ (fun L' hL' t ht => ?_)
    · exact J_fac6 hu hf hq ts.length FU 0 A1 B1 c1 _ _ (by omega) (by unfold FU; omega) (by omega) u3 v3 ln1 ln2
    · rw [tyD_app, u5 t (by omega)]
      exact hL' t ht
  · have u1' : ru Tc r = some A1 := u1
    have v1' : gu Tm mb = some (0, B1) := v1
    obtain ⟨fv, hfv⟩ : ∃ k, FU = k + 1 := ⟨FU - 1, by unfold FU; omega⟩
    refine Or.inr ⟨A1, B1, fl, fp, ?_, ?_, u2, v2, u3, u4, u5⟩
    · simp only [hc.1.rv, u1', Option.bind_some]
      rw [hfv]
      exact F_fac6 ru fv _ u3
    · simp only [hm.rv, v1', Option.bind_some, if_true]
theorem J_ter6 {ru : St → Nat → Option St} {gu : St → Nat → Option (Int32 × St)} {q : Nat} (hu : NT r la l f mb tb n ts (fun T => f_X7_readFactors ru T r) (fun T => f_X12_product gu T mb) d (UP false q)) : ∀ (N fu x : Nat) (Tc Tm : St) (c : Nat) (C : List Int32) (L : List Sps), ts.length - c ≤ N → N < fu → x ≤ c → PCr r la l ts f Tc c d C → PMr mb tb n ts Tm c d L → C.length ≤ c → L.length ≤ C.length → RS r la l f mb tb n ts Tc Tm c d C L (f_X7_readTerms_6 ru fu Tc r (nI x)) (f_X12_sumUp_9 gu fu Tm mb) (UP1 false false (q + 1)) := by
  intro N
  induction N with
  | zero =>
    intro fu x Tc Tm c C L e1 e2 e3 hc hm
    have := hc.2.1
    omega
  | succ N ih =>
    intro fu x Tc Tm c C L e1 e2 e3 hc hm e4 e5
    obtain ⟨fu, rfl⟩ : ∃ k, fu = k + 1 := ⟨fu - 1, by omega⟩
    obtain ⟨fv, hfv⟩ : ∃ k, fu = k + 1 := ⟨fu - 1, by omega⟩
    have hcl := hc.2.1
    have h601 := hm.1.2.2.2.2
    have tx := hm.tx
    have nsz : ¬ (nI ts.length ≤ nI x) := nI_ge (by omega) (by omega)
    have q3 : ¬ ((1 : Int32) = 0) := by decide
    -- a run with the sign w of the class and k of the reference
    have go : ∀ (w : Int32) (k : Nat), (tkn ts c).1 ≠ 0 → cStep (k, 0) = [-w] → (∀ t : List Bool, ty1 32 (k, 0) (false :: false :: t) = some (false :: t)) → (∀ A A1 A2 : St, f_X7_advance Tc r = some A → f_X7_readFactors ru A r = some A1 → f_X6_addCode A1 la (-w) = some A2 → rcv A (some r) 8 = some r → getR A1 (some r) 8 0 = some (some la) → rcv A1 (some la) 7 = some la → f_X7_readTerms_6 ru (fu + 1) Tc r (nI x) = f_X7_readTerms_6 ru fu A2 r (nI (x + 1))) → (∀ (B B1 : St) (v : Int32), f_X12_next0 Tm mb = some B → f_X12_product gu B mb = some (v, B1) → rcv B (some mb) 13 = some mb → (v = 0 → f_X12_sumUp_9 gu (fu + 1) Tm mb = some (0, B1)) ∧ ∀ B2, v = 1 → rcv B1 (some mb) 13 = some mb → f_X12_lay B1 mb (nI k) 0 = some B2 → f_X12_sumUp_9 gu (fu + 1) Tm mb = f_X12_sumUp_9 gu fu B2 mb) → RS r la l f mb tb n ts Tc Tm c d C L (f_X7_readTerms_6 ru (fu + 1) Tc r (nI x)) (f_X12_sumUp_9 gu (fu + 1) Tm mb) (UP1 false false (q + 1)) := by
      intro w k s0 hw hty hC hM
      obtain ⟨A, B, a1, b1, a2, b2, a3, b3, a4⟩ := adv2 hc hm s0
      rcases hu A B (c + 1) C L a3 b3 (by omega) e5 with ⟨A1, B1, c1, L1, u1, v1, u2, v2, u3, v3, u4, u5⟩ | ⟨A1, B1, fl, fp, u1, v1, u2, v2, u3, u4, u5⟩
      · have ln1 : (C ++ L1.flatMap cStep).length < c1 := by rw [List.length_append]; omega
        have ln2 : (L ++ L1).length ≤ (C ++ L1.flatMap cStep).length := by
          rw [List.length_append, List.length_append]
          have := cS_len L1
          omega
        obtain ⟨A2, B2, x1, y1, x2, y2, x3, y3⟩ := lay2 u3 v3 ln1 ln2 k 0 (-w) hw
        rw [hC A A1 A2 a1 u1 x1 a3.1.rv u3.1.gl u3.1.rl, (hM B B1 1 b1 v1 b3.rv).2 B2 rfl v3.rv y1]
        have e6 : C ++ (L1 ++ [(k, (0 : Int32))]).flatMap cStep = C ++ L1.flatMap cStep ++ [(k, (0 : Int32))].flatMap cStep := by rw [List.flatMap_append, List.append_assoc]
        have e7 : L ++ (L1 ++ [(k, (0 : Int32))]) = L ++ L1 ++ [(k, (0 : Int32))] := by rw [List.append_assoc]
        have e0 : ([(k, (0 : Int32))].flatMap cStep).length = 1 := by rw [List.flatMap_cons, List.flatMap_nil, List.append_nil, hw]; rfl
        have e8 : ((L1 ++ [(k, (0 : Int32))]).flatMap cStep).length = (L1.flatMap cStep).length + 1 := by rw [List.flatMap_append, List.length_append, e0]
        have e9 : (C ++ L1.flatMap cStep ++ [(k, (0 : Int32))].flatMap cStep).length = (C ++ L1.flatMap cStep).length + 1 := by rw [List.length_append, e0]
        have e10 : (L ++ L1 ++ [(k, (0 : Int32))]).length = (L ++ L1).length + 1 := by rw [List.length_append]; rfl
        refine RS.pre (L1 := L1 ++ [(k, 0)]) (c1 := c1) (Q' := UP1 false false (q + 1)) ((a2.tr u2).tr x2) ((b2.tr v2).tr y2) (by omega) ?_ (fun L' hL' t ht => ?_)
        · rw [e6, e7]
          exact ih fu (x + 1) A2 B2 c1 _ _ (by omega) (by omega) (by omega) x3 y3 (by omega) (by omega)
        · rw [tyD_app, tyD_app, u5 (false :: t) (by show t.length + 1 + q ≤ 32; omega)]
          show ((ty1 32 (k, 0) (false :: false :: t)).bind (tyD 32 [])).bind (tyD 32 L') = _
          rw [hty t]
          exact hL' t ht
      · obtain ⟨A2, x1, x2, x3⟩ := F_code u3 (-w)
        refine Or.inr ⟨A2, B1, fl, fp, ?_, (hM B B1 0 b1 v1 b3.rv).1 rfl, (a2.tr u2).tr x2, b2.tr v2, x3, u4, u5⟩
        rw [hC A A1 A2 a1 u1 x1 a3.1.rv u3.1.gl u3.1.rl, hfv]
        exact F_ter6 ru fv _ x3
    by_cases s18 : (tkn ts c).1 = 18
    · have i1 : nI (tkn ts c).1 = 18 := by rw [s18]; rfl
      have i2 : nI (mc (tkn ts c).1) = 43 := by rw [s18]; rfl
      refine go 18 5 (by omega) rfl (fun t => rfl) (fun A A1 A2 z1 z2 z3 z4 z5 z6 => ?_) (fun B B1 v z1 z2 z3 => ?_)
      · rw [f_X7_readTerms_6]
        unfold f_X7_readTerms_35
        simp only [hc.1.g3, hc.1.r3, hc.1.sz, hc.gs, i1, eq_self, if_true, Option.bind_some, if_neg nsz, hc.1.rv, z1, z2, z3, z4, z5, z6, nI_1]
      · rw [f_X12_sumUp_9]
        unfold f_X12_sumUp_27 f_X12_sumUp_42
        simp only [hm.g46, i2, eq_self, if_true, Option.bind_some, hm.rv, z1, z2, z3]
        refine ⟨fun z => by rw [if_pos z], fun B2 z y1 y2 => ?_⟩
        have y2' : f_X12_lay B1 mb 5 0 = some B2 := y2
        rw [if_neg (by rw [z]; exact q3)]
        simp only [y1, y2', Option.bind_some]
    · obtain ⟨m1, m2⟩ := hm.ct (s := 18) (by omega) s18
      have m1' : ¬ nI (tkn ts c).1 = 18 := m1
      have m2' : ¬ nI (mc (tkn ts c).1) = 43 := m2
      by_cases s19 : (tkn ts c).1 = 19
      · have i1 : nI (tkn ts c).1 = 19 := by rw [s19]; rfl
        have i2 : nI (mc (tkn ts c).1) = 45 := by rw [s19]; rfl
        refine go 19 6 (by omega) rfl (fun t => rfl) (fun A A1 A2 z1 z2 z3 z4 z5 z6 => ?_) (fun B B1 v z1 z2 z3 => ?_)
        · rw [f_X7_readTerms_6]
          unfold f_X7_readTerms_35
          simp only [hc.1.g3, hc.1.r3, hc.1.sz, hc.gs, i1, eq_self, if_true, Option.bind_some, if_neg nsz, if_neg (show ¬ ((19 : Int32) = 18) by decide), hc.1.rv, z1, z2, z3, z4, z5, z6, nI_1]
        · rw [f_X12_sumUp_9]
          unfold f_X12_sumUp_27 f_X12_sumUp_42
          simp only [hm.g46, i2, eq_self, if_true, Option.bind_some, hm.rv, z1, z2, z3, if_neg (show ¬ ((45 : Int32) = 43) by decide)]
          refine ⟨fun z => by rw [if_pos z], fun B2 z y1 y2 => ?_⟩
          have y2' : f_X12_lay B1 mb 6 0 = some B2 := y2
          rw [if_neg (by rw [z]; exact q3)]
          simp only [y1, y2', Option.bind_some]
      · obtain ⟨m3, m4⟩ := hm.ct (s := 19) (by omega) s19
        have m3' : ¬ nI (tkn ts c).1 = 19 := m3
        have m4' : ¬ nI (mc (tkn ts c).1) = 45 := m4
        have ec : f_X7_readTerms_6 ru (fu + 1) Tc r (nI x) = some Tc := by
          rw [f_X7_readTerms_6]
          simp only [hc.1.g3, hc.1.r3, hc.1.sz, hc.gs, Option.bind_some, if_neg nsz, if_neg m1', if_neg m3']
        have em : f_X12_sumUp_9 gu (fu + 1) Tm mb = some (1, Tm) := by
          rw [f_X12_sumUp_9]
          simp only [hm.g46, Option.bind_some, if_neg m2', if_neg m4']
        rw [ec, em]
        exact RS.nil hc hm (fun t _ => rfl)
theorem J_terms {ru : St → Nat → Option St} {gu : St → Nat → Option (Int32 × St)} {q : Nat} (hu : NT r la l f mb tb n ts (fun T => ru T r) (fun T => gu T mb) d (UP false q)) (hf : FR r la l ts f (fun T => ru T r)) (hq : 1 ≤ q) : NT r la l f mb tb n ts (fun T => f_X7_readTerms ru T r) (fun T => f_X12_sumUp gu T mb) d (UP false (q + 2)) := by
  intro Tc Tm c C L hc hm e4 e5
  show RS r la l f mb tb n ts Tc Tm c d C L (f_X7_readTerms ru Tc r) (f_X12_sumUp gu Tm mb) (UP false (q + 2))
  have h601 := hm.1.2.2.2.2
  have q3 : ¬ ((1 : Int32) = 0) := by decide
  unfold f_X7_readTerms f_X12_sumUp
  rcases J_factors hu hf hq Tc Tm c C L hc hm e4 e5 with ⟨A1, B1, c1, L1, u1, v1, u2, v2, u3, v3, u4, u5⟩ | ⟨A1, B1, fl, fp, u1, v1, u2, v2, u3, u4, u5⟩
  · have u1' : f_X7_readFactors ru Tc r = some A1 := u1
    have v1' : f_X12_product gu Tm mb = some (1, B1) := v1
    have ln1 : (C ++ L1.flatMap cStep).length ≤ c1 := by rw [List.length_append]; omega
    have ln2 : (L ++ L1).length ≤ (C ++ L1.flatMap cStep).length := by
      rw [List.length_append, List.length_append]
      have := cS_len L1
      omega
    simp only [hc.1.rv, hm.rv, u1', v1', Option.bind_some, if_neg q3]
    refine RS.pre (L1 := L1) (c1 := c1) (Q' := UP1 false false (q + 1 + 1)) u2 v2 (by omega) ?_ (fun L' hL' t ht => ?_)
    · exact J_ter6 (J_factors hu hf hq) ts.length FU 0 A1 B1 c1 _ _ (by omega) (by unfold FU; omega) (by omega) u3 v3 ln1 ln2
    · rw [tyD_app, u5 t (by omega)]
      exact hL' t ht
  · have u1' : f_X7_readFactors ru Tc r = some A1 := u1
    have v1' : f_X12_product gu Tm mb = some (0, B1) := v1
    obtain ⟨fv, hfv⟩ : ∃ k, FU = k + 1 := ⟨FU - 1, by unfold FU; omega⟩
    refine Or.inr ⟨A1, B1, fl, fp, ?_, ?_, u2, v2, u3, u4, u5⟩
    · simp only [hc.1.rv, u1', Option.bind_some]
      rw [hfv]
      exact F_ter6 ru fv _ u3
    · simp only [hm.rv, v1', Option.bind_some, if_true]
end Ter
