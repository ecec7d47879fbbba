section Tes
variable {r la l mb n : Nat} {tb : Nat → Nat} {ts : List Tk} {f : Nat → Nat} {Tc Tm Ac Am : St} {c d : Nat} {C C1 : List Int32} {L L1 : List Sps} {Q Q' : List Sps → Prop} {ru : St → Nat → Option St} {gu : St → Nat → Option (Int32 × St)}
theorem J_ter8 {q : Nat} (hu : NT r la l f mb tb n ts (fun T => ru T r) (fun T => gu T mb) d (UP false q)) (hq : 1 ≤ q) : ∀ (N fu fa fo x p w cb : Nat) (Tc Tm : St) (c : Nat) (C : List Int32) (L : List Sps) (G : Nat × Int32 × St → Option St) (H : Int32 × St → Option (Int32 × St)), N < FU → ts.length - c ≤ N → N < fu → N < fa → N < fo → x ≤ c → (p = 0 ∧ w = 0 ∨ p = 1 ∧ (w = 18 ∨ w = 19)) → (∀ a b S, G (a, b, S) = f_X7_readTerms_141 ru S a b) → (∀ S, H (0, S) = some (0, S)) → (p = 0 → ∀ S, H (1, S) = f_X12_sumUp_9 gu fo S mb) → (p = 1 → ∀ S, H (1, S) = (rcv S (some mb) 13).bind fun b35 => (f_X12_lay S b35 (nI (w - 13)) 0).bind fun S35 => f_X12_sumUp_9 gu fo S35 mb) → PCr r la l ts f Tc c d C → PMr mb tb n ts Tm c d L → C.length ≤ cb → L.length ≤ cb → cb + p ≤ c → RS r la l f mb tb n ts Tc Tm cb d C L ((f_X7_readTerms_8 ru fu Tc r (nI w) (nI x)).bind G) ((f_X12_product_9 gu fa Tm mb).bind H) (Qt q p) := by
  intro N
  induction N with
  | zero =>
    intro fu fa fo x p w cb Tc Tm c C L G H _ e1 _ _ _ _ _ _ _ _ _ hc
    have := hc.2.1
    omega
  | succ N ih =>
    intro fu fa fo x p w cb Tc Tm c C L G H hN e1 e2 e2a e2o e3 hp hG h0 h1 h1' hc hm e4 e5 e6
    obtain ⟨fu, rfl⟩ : ∃ k, fu = k + 1 := ⟨fu - 1, by omega⟩
    obtain ⟨fv, hfv⟩ : ∃ k, fu = k + 1 := ⟨fu - 1, by omega⟩
    obtain ⟨fa, rfl⟩ : ∃ k, fa = k + 1 := ⟨fa - 1, by omega⟩
    obtain ⟨fo, rfl⟩ : ∃ k, fo = k + 1 := ⟨fo - 1, by omega⟩
    have hcl := hc.2.1
    have h601 := hm.1.2.2.2.2
    have tx := hm.tx
    have nsz : ¬ (nI ts.length ≤ nI x) := nI_ge (by omega) (by omega)
    have q3 : ¬ ((1 : Int32) = 0) := by decide
    have hNF : N < FU := by omega
    by_cases s20 : (tkn ts c).1 = 20
    · have i1 : nI (tkn ts c).1 = 20 := by rw [s20]; rfl
      have i2 : nI (mc (tkn ts c).1) = 42 := by rw [s20]; rfl
      obtain ⟨A, B, a1, b1, a2, b2, a3, b3, a4⟩ := adv2 hc hm (by omega)
      have ecl : ∀ A1 A2, ru A r = some A1 → getR A1 (some r) 8 0 = some (some la) → rcv A1 (some la) 7 = some la → f_X6_addCode A1 la (-20) = some A2 → f_X7_readTerms_8 ru (fu + 1) Tc r (nI w) (nI x) = f_X7_readTerms_8 ru fu A2 r (nI w) (nI (x + 1)) := fun A1 A2 z1 z2 z3 z4 => by
        rw [t8_mul hc nsz fu (nI w) i1 (by decide), t89_u a1 hc.1.rv a3.1.rv z1 (by decide), t121_0 z2 z3 z4, nI_1]
      have emr : ∀ (v : Int32) B1, gu B mb = some (v, B1) → rcv B1 (some mb) 13 = some mb → f_X12_product_9 gu (fa + 1) Tm mb = if v = 0 then some (0, B1) else (f_X12_lay B1 mb 7 0).bind fun S35 => f_X12_product_9 gu fa S35 mb := fun v B1 z1 z2 => by
        rw [f_X12_product_9]
        unfold f_X12_product_27 f_X12_product_41
        simp only [hm.g46, i2, eq_self, if_true, Option.bind_some, hm.rv, b1, b3.rv, z1, z2, if_neg (show ¬ ((42 : Int32) = 47) by decide)]
      rcases hu A B (c + 1) C L a3 b3 (by omega) (by omega) with ⟨A1, B1, c1, L1, u1, v1, u2, v2, u3, v3, u4, u5⟩ | ⟨A1, B1, fl, fp, u1, v1, u2, v2, u3, u4, u5⟩
      · have lc := cS_len L1
        have e11 : (C ++ L1.flatMap cStep).length = C.length + (L1.flatMap cStep).length := by rw [List.length_append]
        have e12 : (L ++ L1).length = L.length + L1.length := by rw [List.length_append]
        obtain ⟨A2, B2, x1, y1, x2, y2, x3, y3⟩ := lay2 u3 v3 (by omega) (by omega) 7 0 (-20) rfl
        have y1' : f_X12_lay B1 mb 7 0 = some B2 := y1
        have em : f_X12_product_9 gu (fa + 1) Tm mb = f_X12_product_9 gu fa B2 mb := by
          rw [emr 1 B1 v1 v3.rv, if_neg q3, y1']; rfl
        rw [ecl A1 A2 u1 u3.1.gl u3.1.rl x1, em]
        have e7 : C ++ (L1 ++ [(7, (0 : Int32))]).flatMap cStep = C ++ L1.flatMap cStep ++ [(7, (0 : Int32))].flatMap cStep := by rw [List.flatMap_append, List.append_assoc]
        have e7' : L ++ (L1 ++ [(7, (0 : Int32))]) = L ++ L1 ++ [(7, (0 : Int32))] := by rw [List.append_assoc]
        have e8 : ((L1 ++ [(7, (0 : Int32))]).flatMap cStep).length = (L1.flatMap cStep).length + 1 := by rw [List.flatMap_append, List.length_append]; rfl
        have e9 : (C ++ L1.flatMap cStep ++ [(7, (0 : Int32))].flatMap cStep).length = C.length + (L1.flatMap cStep).length + 1 := by rw [List.length_append, List.length_append]; rfl
        have e10 : (L ++ L1 ++ [(7, (0 : Int32))]).length = L.length + L1.length + 1 := by rw [List.length_append, List.length_append]; rfl
        refine RS.pre (L1 := L1 ++ [(7, 0)]) (c1 := cb + (L1.flatMap cStep).length + 1) (Q' := Qt q p) ((a2.tr u2).tr x2) ((b2.tr v2).tr y2) (by omega) ?_ (fun L' hL' t ht => ?_)
        · rw [e7, e7']
          exact ih fu fa (fo + 1) (x + 1) p w _ A2 B2 c1 _ _ G H hNF (by omega) (by omega) (by omega) (by omega) (by omega) hp hG h0 h1 h1' x3 y3 (by omega) (by omega) (by omega)
        · rw [tyD_app, tyD_app]
          rcases hp with ⟨rfl, -⟩ | ⟨rfl, -⟩
          · rw [if_pos rfl, u5 (false :: t) (by show t.length + 1 + q ≤ 32; omega)]
            exact hL' t ht
          · rw [if_neg (by omega), u5 (false :: false :: t) (by show t.length + 1 + 1 + q ≤ 32; omega)]
            exact hL' t ht
      · obtain ⟨A2, x1, x2, x3⟩ := F_code u3 (-20)
        obtain ⟨A3, x4, x5, x6⟩ := F_t141 ru x3 (nI w)
        refine Or.inr ⟨A3, B1, fl, fp, ?_, ?_, ((a2.tr u2).tr x2).tr x5, b2.tr v2, x6, u4, u5⟩
        · rw [ecl A1 A2 u1 u3.1.gl u3.1.rl x1, hfv]
          refine (bnd (F_ter8 ru fv _ _ x3)).trans ?_
          rw [hG]
          exact x4
        · have mo : MOK B1 mb := b3.1.1.sw v2.1
          rw [emr 0 B1 v1 (mV mo), if_pos rfl]
          exact h0 B1
    · have m20 : ¬ nI (tkn ts c).1 = 20 := (hm.ct (s := 20) (by omega) s20).1
      have m42 : ¬ nI (mc (tkn ts c).1) = 42 := (hm.ct (s := 20) (by omega) s20).2
      by_cases s21 : (tkn ts c).1 = 21
      · have i1 : nI (tkn ts c).1 = 21 := by rw [s21]; rfl
        have i2 : nI (mc (tkn ts c).1) = 47 := by rw [s21]; rfl
        obtain ⟨A, B, a1, b1, a2, b2, a3, b3, a4⟩ := adv2 hc hm (by omega)
        have q2 : ¬ ((47 : Int32) = 42) := by decide
        have ecl : ∀ (v : Int32) A1 A2 A3, f_X7_takeNumber A r 1 99999 = some (v, A1) → rcv A1 (some la) 7 = some la → f_X6_addCode A1 la v = some A2 → getR A2 (some r) 8 0 = some (some la) → rcv A2 (some la) 7 = some la → f_X6_addCode A2 la (-21) = some A3 → f_X7_readTerms_8 ru (fu + 1) Tc r (nI w) (nI x) = f_X7_readTerms_8 ru fu A3 r (nI w) (nI (x + 1)) := fun v A1 A2 A3 z1 z2 z3 z4 z5 z6 => by
          rw [t8_mul hc nsz fu (nI w) i1 (by decide), t89_n a1 hc.1.rv a3.1.rv a3.1.gl z1 z2 z3, t121_0 z4 z5 z6, nI_1]
        rcases X_num a3 b3 (x := 1) (y := 99999) (by decide) (by decide) with ⟨A1, u0, u1, u2, u3, u4, u5⟩ | ⟨A1, u0, u1, u3, u4, u5⟩ | ⟨A1, u0, u3, u4, u5⟩
        · have u3' : f_X7_takeNumber A r 1 99999 = some (nI (tkn ts (c + 1)).2.2.1, A1) := u3
          obtain ⟨v, hv⟩ : ∃ v, v = nI (tkn ts (c + 1)).2.2.1 := ⟨_, rfl⟩
          rw [← hv] at u3'
          obtain ⟨A2, x1, x2, x3⟩ := X_code u5 (by omega) v
          obtain ⟨A3, x4, x5, x6⟩ := X_code x3 (by rw [List.length_append]; show C.length + 1 < _; omega) (-21)
          obtain ⟨B1, y1, y2, y3⟩ := M_lay b3 (by omega) 8 v
          have y1' : f_X12_lay B mb 8 v = some B1 := y1
          obtain ⟨B2, y4, y5, y6⟩ := M_adv y3 (by omega)
          have g46 : nI (mc (tkn ts (c + 1)).1) = 2 := by rw [u0]; rfl
          have g48 := b3.g48 u0
          rw [← hv] at g48
          have vt : 1 ≤ v.toInt := by rw [hv, nI_toInt (by omega)]; omega
          have nz : ¬ v = 0 := fun z => by rw [z] at vt; exact absurd vt (by decide)
          have em : f_X12_product_9 gu (fa + 1) Tm mb = f_X12_product_9 gu fa B2 mb := by
            rw [f_X12_product_9]
            unfold f_X12_product_27 f_X12_product_41
            simp only [hm.g46, i2, eq_self, if_true, Option.bind_some, hm.rv, b1, b3.g46, g46, if_neg q2, if_neg q3, g48, if_neg nz, b3.rv, y1', y3.rv, y4]
          rw [ecl v A1 A2 A3 u3' u5.1.rl x1 x3.1.gl x3.1.rl x4, em]
          have e7 : C ++ [(8, v)].flatMap cStep = C ++ [v] ++ [-21] := by rw [List.append_assoc]; rfl
          have e8 : ([(8, v)].flatMap cStep).length = 2 := rfl
          have e9 : (C ++ [v] ++ [-21]).length = C.length + 2 := by rw [List.length_append, List.length_append]; rfl
          have e10 : (L ++ [(8, v)]).length = L.length + 1 := by rw [List.length_append]; rfl
          refine RS.pre (L1 := [(8, v)]) (c1 := cb + 2) (Q' := Qt q p) (((a2.tr u4).tr x2).tr x5) ((b2.tr y2).tr y5) (by omega) ?_ (fun L' hL' t ht => ?_)
          · rw [e7]
            exact ih fu fa (fo + 1) (x + 1) p w _ A3 B2 (c + 1 + 1) _ _ G H hNF (by omega) (by omega) (by omega) (by omega) (by omega) hp hG h0 h1 h1' x6 y6 (by omega) (by omega) (by omega)
          · rw [tyD_app]
            have ty8 : ∀ u : List Bool, u.length + 1 < 32 → tyD 32 [(8, v)] (false :: u) = some (false :: u) := fun u hu' => by
              show (if u.length + 1 < 32 ∧ 0 < v then some (false :: u) else none).bind _ = _
              rw [if_pos ⟨hu', by rw [lt_i]; simp only [Int32.reduceToInt]; omega⟩]
              rfl
            rcases hp with ⟨rfl, -⟩ | ⟨rfl, -⟩
            · rw [if_pos rfl, ty8 t (by omega)]
              exact hL' t ht
            · rw [if_neg (by omega), ty8 (false :: t) (by show t.length + 1 + 1 < 32; omega)]
              exact hL' t ht
        · have u3' : f_X7_takeNumber A r 1 99999 = some (1, A1) := u3
          obtain ⟨A2, x1, x2, x3⟩ := F_code u5 1
          obtain ⟨A3, x4, x5, x6⟩ := F_code x3 (-21)
          obtain ⟨A4, x7, x8, x9⟩ := F_t141 ru x6 (nI w)
          obtain ⟨B1, y1, y2, y3, y4⟩ := M_bad b3 2
          have b100 := b3.tx.2.2.1
          have g46 : nI (mc (tkn ts (c + 1)).1) = 2 := by rw [u0]; rfl
          have g48 := b3.g48 u0
          have z0 : nI (tkn ts (c + 1)).2.2.1 = 0 := by rw [show (tkn ts (c + 1)).2.2.1 = 0 by omega]; rfl
          rw [z0] at g48
          refine Or.inr ⟨A4, B1, 2, _, ?_, ?_, (((a2.tr u4).tr x2).tr x5).tr x8, b2.tr y2, x9, y3, y4⟩
          · rw [ecl 1 A1 A2 A3 u3' u5.1.rl x1 x3.1.gl x3.1.rl x4, hfv]
            refine (bnd (F_ter8 ru fv _ _ x6)).trans ?_
            rw [hG]
            exact x7
          · have em : f_X12_product_9 gu (fa + 1) Tm mb = some (0, B1) := by
              rw [f_X12_product_9]
              unfold f_X12_product_27 f_X12_product_41
              simp only [hm.g46, i2, eq_self, if_true, Option.bind_some, hm.rv, b1, b3.g46, g46, if_neg q2, if_neg q3, g48, b3.rv, y1, zchk0]
            exact (bnd em).trans (h0 B1)
        · have u3' : f_X7_takeNumber A r 1 99999 = some (1, A1) := u3
          obtain ⟨A2, x1, x2, x3⟩ := F_code u5 1
          obtain ⟨A3, x4, x5, x6⟩ := F_code x3 (-21)
          obtain ⟨A4, x7, x8, x9⟩ := F_t141 ru x6 (nI w)
          obtain ⟨B1, y1, y2, y3, y4⟩ := M_bad b3 1
          have g46 : ¬ nI (mc (tkn ts (c + 1)).1) = 2 := (b3.ct (s := 2) (by omega) u0).2
          refine Or.inr ⟨A4, B1, 1, _, ?_, ?_, (((a2.tr u4).tr x2).tr x5).tr x8, b2.tr y2, x9, y3, y4⟩
          · rw [ecl 1 A1 A2 A3 u3' u5.1.rl x1 x3.1.gl x3.1.rl x4, hfv]
            refine (bnd (F_ter8 ru fv _ _ x6)).trans ?_
            rw [hG]
            exact x7
          · have em : f_X12_product_9 gu (fa + 1) Tm mb = some (0, B1) := by
              rw [f_X12_product_9]
              unfold f_X12_product_27 f_X12_product_41
              simp only [hm.g46, i2, eq_self, if_true, Option.bind_some, hm.rv, b1, b3.g46, if_neg q2, if_neg q3, if_neg g46, b3.rv, y1, zchk0]
            exact (bnd em).trans (h0 B1)
      · have m47 : ¬ nI (mc (tkn ts c).1) = 47 := (hm.ct (s := 21) (by omega) s21).2
        have ema : f_X12_product_9 gu (fa + 1) Tm mb = some (1, Tm) := by
          rw [f_X12_product_9]
          simp only [hm.g46, if_neg m42, if_neg m47, Option.bind_some]
        have ema' : (f_X12_product_9 gu (fa + 1) Tm mb).bind H = H (1, Tm) := bnd ema
        rw [ema']
        have tw : p = 1 → cStep (w - 13, 0) = [-nI w] ∧ ¬ nI w = 0 ∧ ∀ t : List Bool, tyD 32 [(w - 13, (0 : Int32))] (false :: false :: t) = some (false :: t) := fun z => by
          rcases hp with ⟨z', -⟩ | ⟨-, rfl | rfl⟩
          · omega
          · exact ⟨rfl, by decide, fun t => rfl⟩
          · exact ⟨rfl, by decide, fun t => rfl⟩
        by_cases sa : (tkn ts c).1 = 18 ∨ (tkn ts c).1 = 19
        · obtain ⟨s, hs⟩ : ∃ s, s = (tkn ts c).1 := ⟨_, rfl⟩
          have i1 : nI (tkn ts c).1 = nI s := by rw [hs]
          have hk : (tkn ts c).1 = 18 ∧ s - 13 = 5 ∨ (tkn ts c).1 = 19 ∧ s - 13 = 6 := by omega
          have sI : (¬ nI s < 18 ∧ ¬ (21 : Int32) < nI s ∧ (nI s = 18 ∨ nI s = 19)) ∧ ¬ nI s = 21 := by
            have : s = 18 ∨ s = 19 := by omega
            rcases this with e | e <;> rw [e] <;> decide
          -- what both do from the sign on
          have go : ∀ (Tc0 Tm0 : St) (C0 : List Int32) (L0 : List Sps) (c0 : Nat), PCr r la l ts f Tc0 c d C0 → PMr mb tb n ts Tm0 c d L0 → C0.length ≤ c0 → L0.length ≤ c0 → c0 ≤ c → (∀ A A1 : St, f_X7_advance Tc0 r = some A → rcv A (some r) 8 = some r → ru A r = some A1 → f_X7_readTerms_8 ru (fu + 1) Tc r (nI w) (nI x) = f_X7_readTerms_8 ru fu A1 r (nI s) (nI (x + 1))) → RS r la l f mb tb n ts Tc0 Tm0 c0 d C0 L0 ((f_X7_readTerms_8 ru (fu + 1) Tc r (nI w) (nI x)).bind G) (f_X12_sumUp_9 gu (fo + 1) Tm0 mb) (Qt q 0) := by
            intro Tc0 Tm0 C0 L0 c0 hc0 hm0 k1 k2 k3 hC
            obtain ⟨A, B, a1, b1, a2, b2, a3, b3, a4⟩ := adv2 hc0 hm0 (by omega)
            rcases hu A B (c + 1) C0 L0 a3 b3 (by omega) (by omega) with ⟨A1, B1, c1, L1, u1, v1, u2, v2, u3, v3, u4, u5⟩ | ⟨A1, B1, fl, fp, u1, v1, u2, v2, u3, u4, u5⟩
            · rw [hC A A1 a1 a3.1.rv u1, sum9_ad fo hm0 hk b1 b3.rv v1, if_neg q3]
              have lc := cS_len L1
              have e11 : (C0 ++ L1.flatMap cStep).length = C0.length + (L1.flatMap cStep).length := by rw [List.length_append]
              have e12 : (L0 ++ L1).length = L0.length + L1.length := by rw [List.length_append]
              refine RS.pre (L1 := L1) (c1 := c0 + (L1.flatMap cStep).length) (Q' := Qt q 1) (a2.tr u2) (b2.tr v2) (by omega) ?_ (fun L' hL' t ht => ?_)
              · exact ih fu FU fo (x + 1) 1 s _ A1 B1 c1 _ _ G (Hs gu mb fo (s - 13)) hNF (by omega) (by omega) hNF (by omega) (by omega) (Or.inr ⟨rfl, by omega⟩) hG (fun S => rfl) (fun z => by omega) (fun _ S => rfl) u3 v3 (by omega) (by omega) (by omega)
              · rw [tyD_app, if_pos rfl, u5 (false :: t) (by show t.length + 1 + q ≤ 32; omega)]
                exact hL' t ht
            · obtain ⟨A3, x4, x5, x6⟩ := F_t141 ru u3 (nI s)
              refine Or.inr ⟨A3, B1, fl, fp, ?_, ?_, (a2.tr u2).tr x5, b2.tr v2, x6, u4, u5⟩
              · rw [hC A A1 a1 a3.1.rv u1, hfv]
                refine (bnd (F_ter8 ru fv _ _ u3)).trans ?_
                rw [hG]
                exact x4
              · rw [sum9_ad fo hm0 hk b1 b3.rv v1, if_pos rfl]
          by_cases p0 : p = 0
          · obtain rfl : w = 0 := by omega
            subst p0
            rw [h1 rfl]
            refine go Tc Tm C L cb hc hm e4 e5 (by omega) (fun A A1 z1 z2 z3 => ?_)
            rw [nI_0, t8_add0 hc nsz fu i1 sI.1, t89_u z1 hc.1.rv z2 z3 sI.2, t121_1, nI_1]
          · obtain rfl : p = 1 := by omega
            obtain ⟨tw1, tw2, tw3⟩ := tw rfl
            obtain ⟨A0, B0, x1, y1, x2, y2, x3, y3⟩ := lay2 hc hm (by omega) (by omega) (w - 13) 0 (-nI w) tw1
            rw [h1' rfl Tm]
            simp only [hm.rv, Option.bind_some, y1]
            have e8 : ([(w - 13, (0 : Int32))].flatMap cStep).length = 1 := by rw [List.flatMap_cons, List.flatMap_nil, List.append_nil, tw1]; rfl
            have e9 : (C ++ [(w - 13, (0 : Int32))].flatMap cStep).length = C.length + 1 := by rw [List.length_append, e8]
            have e10 : (L ++ [(w - 13, (0 : Int32))]).length = L.length + 1 := by rw [List.length_append]; rfl
            refine RS.pre (L1 := [(w - 13, 0)]) (c1 := cb + 1) (Q' := Qt q 0) x2 y2 (by omega) ?_ (fun L' hL' t ht => ?_)
            · refine go A0 B0 _ _ (cb + 1) x3 y3 (by omega) (by omega) (by omega) (fun A A1 z1 z2 z3 => ?_)
              rw [t8_add1 hc nsz fu tw2 x1 i1 sI.1, t89_u z1 x3.1.rv z2 z3 sI.2, t121_1, nI_1]
            · rw [tyD_app, if_neg (by omega), tw3 t]
              exact hL' t ht
        · have m43 : ¬ nI (mc (tkn ts c).1) = 43 := (hm.ct (s := 18) (by omega) (by omega)).2
          have m45 : ¬ nI (mc (tkn ts c).1) = 45 := (hm.ct (s := 19) (by omega) (by omega)).2
          have sE : nI (tkn ts c).1 < 18 ∨ (21 : Int32) < nI (tkn ts c).1 := by
            rw [lt_i, lt_i, nI_toInt (by omega)]
            simp only [Int32.reduceToInt]
            omega
          have ec' : (f_X7_readTerms_8 ru (fu + 1) Tc r (nI w) (nI x)).bind G = f_X7_readTerms_141 ru Tc r (nI w) := (bnd (t8_end hc fu (nI w) (nI x) rfl sE)).trans (hG _ _ _)
          rw [ec']
          have em : ∀ {T' : St} {L' : List Sps}, PMr mb tb n ts T' c d L' → f_X12_sumUp_9 gu (fo + 1) T' mb = some (1, T') := fun h => by
            rw [f_X12_sumUp_9]
            simp only [h.g46, if_neg m43, if_neg m45, Option.bind_some]
          unfold f_X7_readTerms_141
          by_cases p0 : p = 0
          · obtain rfl : w = 0 := by omega
            subst p0
            rw [h1 rfl, em hm, if_pos (by rfl)]
            refine Or.inl ⟨Tc, Tm, c, [], rfl, rfl, CWr.rf _, RWm.rf _, by rw [List.flatMap_nil, List.append_nil]; exact hc, by rw [List.append_nil]; exact hm, by rw [List.flatMap_nil]; show 0 + cb ≤ c; omega, fun t _ => rfl⟩
          · obtain rfl : p = 1 := by omega
            obtain ⟨tw1, tw2, tw3⟩ := tw rfl
            obtain ⟨A0, B0, x1, y1, x2, y2, x3, y3⟩ := lay2 hc hm (by omega) (by omega) (w - 13) 0 (-nI w) tw1
            have e8 : ([(w - 13, (0 : Int32))].flatMap cStep).length = 1 := by rw [List.flatMap_cons, List.flatMap_nil, List.append_nil, tw1]; rfl
            rw [h1' rfl Tm, if_neg tw2]
            simp only [hm.rv, Option.bind_some, y1, hc.1.gl, hc.1.rl, x1, em y3]
            exact Or.inl ⟨A0, B0, c, [(w - 13, 0)], rfl, rfl, x2, y2, x3, y3, by omega, fun t _ => tw3 t⟩
theorem J_terms {q : Nat} (hu : NT r la l f mb tb n ts (fun T => ru T r) (fun T => gu T mb) d (UP false q)) (hq : 1 ≤ q) : NT r la l f mb tb n ts (fun T => f_X7_readTerms ru T r) (fun T => f_X12_sumUp gu T mb) d (UP false (q + 2)) := by
  intro Tc Tm c C L hc hm e4 e5
  show RS r la l f mb tb n ts Tc Tm c d C L (f_X7_readTerms ru Tc r) (f_X12_sumUp gu Tm mb) (UP false (q + 2))
  have h601 := hm.1.2.2.2.2
  have q3 : ¬ ((1 : Int32) = 0) := by decide
  have hs : f_X12_sumUp gu Tm mb = (f_X12_product gu Tm mb).bind (fun o => if o.1 = 0 then some (0, o.2) else f_X12_sumUp_9 gu FU o.2 mb) := by
    unfold f_X12_sumUp
    simp only [hm.rv, Option.bind_some]
  rcases hu Tc Tm c C L hc hm e4 e5 with ⟨A1, B1, c1, L1, u1, v1, u2, v2, u3, v3, u4, u5⟩ | ⟨A1, B1, fl, fp, u1, v1, u2, v2, u3, u4, u5⟩
  · have u1' : ru Tc r = some A1 := u1
    have v1' : gu Tm mb = some (1, B1) := v1
    have hp : f_X12_product gu Tm mb = f_X12_product_9 gu FU B1 mb := by
      unfold f_X12_product
      simp only [hm.rv, v1', Option.bind_some, if_neg q3]
    have lc := cS_len L1
    have e11 : (C ++ L1.flatMap cStep).length = C.length + (L1.flatMap cStep).length := by rw [List.length_append]
    have e12 : (L ++ L1).length = L.length + L1.length := by rw [List.length_append]
    rw [hs, hp]
    unfold f_X7_readTerms
    simp only [hc.1.rv, u1', Option.bind_some]
    refine RS.pre (L1 := L1) (c1 := c1) (Q' := Qt q 0) u2 v2 (by omega) ?_ (fun L' hL' t ht => ?_)
    · exact J_ter8 hu hq ts.length FU FU FU 0 0 0 c1 A1 B1 c1 _ _ _ _ (by unfold FU; omega) (by omega) (by unfold FU; omega) (by unfold FU; omega) (by unfold FU; omega) (by omega) (Or.inl ⟨rfl, rfl⟩) (fun _ _ _ => rfl) (fun S => rfl) (fun _ S => rfl) (fun z => by omega) u3 v3 (by omega) (by omega) (by omega)
    · rw [tyD_app, u5 t (by omega)]
      exact hL' t ht
  · have u1' : ru Tc r = some A1 := u1
    have v1' : gu Tm mb = some (0, B1) := v1
    obtain ⟨fv, hfv⟩ : ∃ k, FU = k + 1 := ⟨FU - 1, by unfold FU; omega⟩
    obtain ⟨A3, x4, x5, x6⟩ := F_t141 ru u3 0
    refine Or.inr ⟨A3, B1, fl, fp, ?_, ?_, u2.tr x5, v2, x6, u4, u5⟩
    · unfold f_X7_readTerms
      simp only [hc.1.rv, u1', Option.bind_some]
      rw [hfv]
      exact (bnd (F_ter8 ru fv 0 0 u3)).trans x4
    · rw [hs]
      have hp : f_X12_product gu Tm mb = some (0, B1) := by
        unfold f_X12_product
        simp only [hm.rv, v1', Option.bind_some, if_true]
      exact (bnd hp).trans (if_pos rfl)
end Tes
