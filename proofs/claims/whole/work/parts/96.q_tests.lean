section Tss
variable {r la l mb n : Nat} {tb : Nat → Nat} {ts : List Tk} {f : Nat → Nat} {Tc Tm Ac Am : St} {c d : Nat} {C C1 : List Int32} {L L1 : List Sps} {Q Q' : List Sps → Prop}
/-- the reference's end of a chain within others -/
def Hm (mb fo : Nat) : Int32 × St → Option (Int32 × St) := fun o => if o.1 = 0 then some (0, o.2) else (rcv o.2 (some mb) 13).bind fun b35 => (f_X12_lay o.2 b35 14 0).bind fun S35 => f_X12_any_9 fo S35 mb
def Qp (p : Nat) (L : List Sps) : Prop := ∀ t : List Bool, t.length + 22 ≤ 32 → tyD 32 L (if p = 0 then true :: t else true :: true :: t) = some (true :: t)
/-- the end of a condition -/
abbrev Ec (r : Nat) : St → Option St := fun S => f_X7_readCondition_146 S r
theorem any9_or {B B1 : St} {v : Int32} (fo : Nat) (hm : PMr mb tb n ts Tm c d L) (i2 : nI (mc (tkn ts c).1) = 10) (b1 : f_X12_next0 Tm mb = some B) (b2 : rcv B (some mb) 13 = some mb) (h1 : F_X12_one B mb = some (v, B1)) : f_X12_any_9 (fo + 1) Tm mb = (if v = 0 then some (0, B1) else (f_X12_all_9 FU B1 mb).bind (Hm mb fo)) := by
  rw [f_X12_any_9]
  simp only [hm.g46, i2, eq_self, if_true, Option.bind_some, hm.rv, b1, b2]
  have : f_X12_all B mb = if v = 0 then some (0, B1) else f_X12_all_9 FU B1 mb := by
    unfold f_X12_all
    simp only [b2, h1, Option.bind_some]
  rw [this]
  by_cases z : v = 0
  · rw [if_pos z, if_pos z]
    rfl
  · rw [if_neg z, if_neg z]
    rfl
theorem h12_13 (L1 : List Sps) (h : h12 (nn L1)) : nn (L1 ++ [(13, (0 : Int32))]) = nn L1 ++ [(13, (0 : Int32))] ∧ h12 (nn (L1 ++ [(13, (0 : Int32))])) := by
  have e : h12 (nn [(13, (0 : Int32))]) := fun w u z => by
    have z' : [(13, (0 : Int32))] = w :: u := z
    obtain ⟨rfl, -⟩ := List.cons.inj z'
    decide
  have e2 : nn (L1 ++ [(13, (0 : Int32))]) = nn L1 ++ [(13, (0 : Int32))] := nn_app L1 [(13, (0 : Int32))] e
  refine ⟨e2, ?_⟩
  rw [e2]
  exact h12_app h e
theorem h12_14 : h12 (nn [(14, (0 : Int32))]) := fun w u z => by
  have z' : [(14, (0 : Int32))] = w :: u := z
  obtain ⟨rfl, -⟩ := List.cons.inj z'
  decide
theorem J_c31 : ∀ (N fu fa fo x p cb : Nat) (Tc Tm : St) (c : Nat) (C : List Int32) (L : List Sps) (G : Nat × Int32 × St → Option St) (H : Int32 × St → Option (Int32 × St)), N < FU → ts.length - c ≤ N → N < fu → N < fa → N < fo → x ≤ c → (p = 0 ∨ p = 1) → (∀ a b S, G (a, b, S) = f_X7_readCondition_133 S a b) → (∀ S, H (0, S) = some (0, S)) → (p = 0 → ∀ S, H (1, S) = f_X12_any_9 fo S mb) → (p = 1 → ∀ S, H (1, S) = (rcv S (some mb) 13).bind fun b35 => (f_X12_lay S b35 14 0).bind fun S35 => f_X12_any_9 fo S35 mb) → PCr r la l ts f Tc c 0 C → PMr mb tb n ts Tm c 0 L → C.length ≤ cb → L.length ≤ cb → cb + p ≤ c → RS2 (Ec r) r la l f mb tb n ts Tc Tm cb 0 C L ((f_X7_readCondition_31 fu Tc r (nI p) (nI x)).bind G) ((f_X12_all_9 fa Tm mb).bind H) (Qp p) := by
  intro N
  induction N with
  | zero =>
    intro fu fa fo x p cb Tc Tm c C L G H _ e1 _ _ _ _ _ _ _ _ _ hc
    have := hc.2.1
    omega
  | succ N ih =>
    intro fu fa fo x p cb Tc Tm c C L G H hN e1 e2 e2a e2o e3 hp hG h0 h1 h1' hc hm e4 e5 e4'
    obtain ⟨fu, rfl⟩ : ∃ k, fu = k + 1 := ⟨fu - 1, by omega⟩
    obtain ⟨fv, hfv⟩ : ∃ k, fu = k + 1 := ⟨fu - 1, by omega⟩
    obtain ⟨fa, rfl⟩ : ∃ k, fa = k + 1 := ⟨fa - 1, by omega⟩
    obtain ⟨fo, rfl⟩ : ∃ k, fo = k + 1 := ⟨fo - 1, by omega⟩
    have hcl := hc.2.1
    have h601 := hm.1.2.2.2.2
    have tx := hm.tx
    have nsz : ¬ (nI ts.length ≤ nI x) := nI_ge (by omega) (by omega)
    have q3 : ¬ ((1 : Int32) = 0) := by decide
    have hNF : N < FU := by omega
    by_cases s15 : (tkn ts c).1 = 15
    · have i1 : nI (tkn ts c).1 = 15 := by rw [s15]; rfl
      have i2 : nI (mc (tkn ts c).1) = 11 := by rw [s15]; rfl
      obtain ⟨A, B, a1, b1, a2, b2, a3, b3, a4⟩ := adv2 hc hm (by omega)
      have ecl : ∀ A1 A2, f_X7_readTest A r = some A1 → getR A1 (some r) 8 0 = some (some la) → rcv A1 (some la) 7 = some la → f_X6_addCode A1 la (-15) = some A2 → f_X7_readCondition_31 (fu + 1) Tc r (nI p) (nI x) = f_X7_readCondition_31 fu A2 r (nI p) (nI (x + 1)) := fun A1 A2 z1 z2 z3 z4 => by
        rw [f_X7_readCondition_31]
        unfold f_X7_readCondition_60 f_X7_readCondition_74 f_X7_readCondition_92 f_X7_readCondition_100 f_X7_readCondition_105
        simp only [hc.1.g3, hc.1.r3, hc.1.sz, hc.gs, i1, eq_self, if_true, Option.bind_some, if_neg nsz, if_neg (show ¬ ((15 : Int32) = 14) by decide), hc.1.rv, a1, a3.1.rv, z1, z2, z3, z4, nI_1]
        rcases hp with rfl | rfl
        · rw [if_pos (by rfl)]; rfl
        · rw [if_neg (by decide)]; rfl
      have emr : ∀ (v : Int32) B1, F_X12_one B mb = some (v, B1) → rcv B1 (some mb) 13 = some mb → f_X12_all_9 (fa + 1) Tm mb = if v = 0 then some (0, B1) else (f_X12_lay B1 mb 13 0).bind fun S35 => f_X12_all_9 fa S35 mb := fun v B1 z1 z2 => by
        rw [f_X12_all_9]
        simp only [hm.g46, i2, eq_self, if_true, Option.bind_some, hm.rv, b1, b3.rv, z1, z2]
      rcases J_Test a3 b3 (by omega) (by omega) with ⟨A1, B1, c1, L1, u1, v1, u2, v2, u3, v3, u4, u4', u6, u5⟩ | ⟨A1, B1, fl, fp, u1, v1, u2, v2, u3, u4, u5⟩
      · have e11 : (C ++ (nn L1).flatMap cStep).length = C.length + ((nn L1).flatMap cStep).length := by rw [List.length_append]
        have e12 : (L ++ L1).length = L.length + L1.length := by rw [List.length_append]
        obtain ⟨A2, B2, x1, y1, x2, y2, x3, y3⟩ := lay2 u3 v3 (by omega) (by omega) 13 0 (-15) rfl
        have y1' : f_X12_lay B1 mb 13 0 = some B2 := y1
        have em : f_X12_all_9 (fa + 1) Tm mb = f_X12_all_9 fa B2 mb := by
          rw [emr 1 B1 v1 v3.rv, if_neg q3, y1']; rfl
        rw [ecl A1 A2 u1 u3.1.gl u3.1.rl x1, em]
        obtain ⟨n1, n2⟩ := h12_13 L1 u6
        have e6 : C ++ (nn (L1 ++ [(13, (0 : Int32))])).flatMap cStep = C ++ (nn L1).flatMap cStep ++ [(13, (0 : Int32))].flatMap cStep := by rw [n1, List.flatMap_append, List.append_assoc]
        have e7 : L ++ (L1 ++ [(13, (0 : Int32))]) = L ++ L1 ++ [(13, (0 : Int32))] := by rw [List.append_assoc]
        have e8 : ((nn (L1 ++ [(13, (0 : Int32))])).flatMap cStep).length = ((nn L1).flatMap cStep).length + 1 := by rw [n1, List.flatMap_append, List.length_append]; rfl
        have e8' : (L1 ++ [(13, (0 : Int32))]).length = L1.length + 1 := by rw [List.length_append]; rfl
        have e9 : (C ++ (nn L1).flatMap cStep ++ [(13, (0 : Int32))].flatMap cStep).length = C.length + ((nn L1).flatMap cStep).length + 1 := by rw [List.length_append, List.length_append]; rfl
        have e10 : (L ++ L1 ++ [(13, (0 : Int32))]).length = L.length + L1.length + 1 := by rw [List.length_append, List.length_append]; rfl
        refine RS2.pre (L1 := L1 ++ [(13, 0)]) (c1 := c1 - p) (Q' := Qp p) ((a2.tr u2).tr x2) ((b2.tr v2).tr y2) (by omega) (by omega) n2 ?_ (fun L' hL' t ht => ?_)
        · rw [e6, e7]
          exact ih fu fa (fo + 1) (x + 1) p _ A2 B2 c1 _ _ G H hNF (by omega) (by omega) (by omega) (by omega) (by omega) hp hG h0 h1 h1' x3 y3 (by omega) (by omega) (by omega)
        · rw [tyD_app, tyD_app]
          rcases hp with rfl | rfl
          · rw [if_pos rfl, u5 (true :: t) (by show t.length + 1 + _ ≤ 32; omega)]
            exact hL' t ht
          · rw [if_neg (by omega), u5 (true :: true :: t) (by show t.length + 1 + 1 + _ ≤ 32; omega)]
            exact hL' t ht
      · obtain ⟨A2, x1, x2, x3⟩ := F_code u3 (-15)
        obtain ⟨A3, x4, x5, x6⟩ := F_c133 x3 (nI p)
        refine Or.inr ⟨A3, B1, fl, fp, ?_, ?_, ((a2.tr u2).tr x2).tr x5, b2.tr v2, x6, u4, u5⟩
        · rw [ecl A1 A2 u1 u3.1.gl u3.1.rl x1, hfv]
          refine (bnd (F_c31 fv _ _ x3)).trans ?_
          rw [hG]
          exact x4
        · have mo : MOK B1 mb := b3.1.1.sw v2.1
          rw [emr 0 B1 v1 (mV mo), if_pos rfl]
          exact h0 B1
    · have m1 : ¬ nI (tkn ts c).1 = 15 := (hm.ct (s := 15) (by omega) s15).1
      have m2 : ¬ nI (mc (tkn ts c).1) = 11 := (hm.ct (s := 15) (by omega) s15).2
      have ema : f_X12_all_9 (fa + 1) Tm mb = some (1, Tm) := by
        rw [f_X12_all_9]
        simp only [hm.g46, if_neg m2, Option.bind_some]
      have ema' : (f_X12_all_9 (fa + 1) Tm mb).bind H = H (1, Tm) := bnd ema
      rw [ema']
      by_cases s14 : (tkn ts c).1 = 14
      · have i1 : nI (tkn ts c).1 = 14 := by rw [s14]; rfl
        have i2 : nI (mc (tkn ts c).1) = 10 := by rw [s14]; rfl
        -- what both do from the word on
        have go : ∀ (Tc0 Tm0 : St) (C0 : List Int32) (L0 : List Sps) (c0 : Nat), PCr r la l ts f Tc0 c 0 C0 → PMr mb tb n ts Tm0 c 0 L0 → C0.length ≤ c0 → L0.length ≤ c0 → c0 ≤ c → (∀ A A1 : St, f_X7_advance Tc0 r = some A → rcv A (some r) 8 = some r → f_X7_readTest A r = some A1 → f_X7_readCondition_31 (fu + 1) Tc r (nI p) (nI x) = f_X7_readCondition_31 fu A1 r (nI 1) (nI (x + 1))) → RS2 (Ec r) r la l f mb tb n ts Tc0 Tm0 c0 0 C0 L0 ((f_X7_readCondition_31 (fu + 1) Tc r (nI p) (nI x)).bind G) (f_X12_any_9 (fo + 1) Tm0 mb) (Qp 0) := by
          intro Tc0 Tm0 C0 L0 c0 hc0 hm0 k1 k2 k3 hC
          obtain ⟨A, B, a1, b1, a2, b2, a3, b3, a4⟩ := adv2 hc0 hm0 (by omega)
          rcases J_Test a3 b3 (by omega) (by omega) with ⟨A1, B1, c1, L1, u1, v1, u2, v2, u3, v3, u4, u4', u6, u5⟩ | ⟨A1, B1, fl, fp, u1, v1, u2, v2, u3, u4, u5⟩
          · rw [hC A A1 a1 a3.1.rv u1, any9_or fo hm0 i2 b1 b3.rv v1, if_neg q3]
            have e11 : (C0 ++ (nn L1).flatMap cStep).length = C0.length + ((nn L1).flatMap cStep).length := by rw [List.length_append]
            have e12 : (L0 ++ L1).length = L0.length + L1.length := by rw [List.length_append]
            refine RS2.pre (L1 := L1) (c1 := c1 - 1) (Q' := Qp 1) (a2.tr u2) (b2.tr v2) (by omega) (by omega) u6 ?_ (fun L' hL' t ht => ?_)
            · exact ih fu FU fo (x + 1) 1 _ A1 B1 c1 _ _ G (Hm mb fo) hNF (by omega) (by omega) hNF (by omega) (by omega) (Or.inr rfl) hG (fun S => rfl) (fun z => by omega) (fun _ S => rfl) u3 v3 (by omega) (by omega) (by omega)
            · rw [tyD_app, if_pos rfl, u5 (true :: t) (by show t.length + 1 + _ ≤ 32; omega)]
              exact hL' t ht
          · obtain ⟨A3, x4, x5, x6⟩ := F_c133 u3 (nI 1)
            refine Or.inr ⟨A3, B1, fl, fp, ?_, ?_, (a2.tr u2).tr x5, b2.tr v2, x6, u4, u5⟩
            · rw [hC A A1 a1 a3.1.rv u1, hfv]
              refine (bnd (F_c31 fv _ _ u3)).trans ?_
              rw [hG]
              exact x4
            · rw [any9_or fo hm0 i2 b1 b3.rv v1, if_pos rfl]
        rcases hp with rfl | rfl
        · rw [h1 rfl]
          refine go Tc Tm C L cb hc hm e4 e5 (by omega) (fun A A1 z1 z2 z3 => ?_)
          rw [f_X7_readCondition_31]
          unfold f_X7_readCondition_60 f_X7_readCondition_74 f_X7_readCondition_92 f_X7_readCondition_100 f_X7_readCondition_105
          simp only [hc.1.g3, hc.1.r3, hc.1.sz, hc.gs, i1, eq_self, if_true, Option.bind_some, if_neg nsz, if_neg q3, nI_0, hc.1.rv, z1, z2, z3, nI_1]
          rfl
        · obtain ⟨A0, B0, x1, y1, x2, y2, x3, y3⟩ := lay2 hc hm (by omega) (by omega) 14 0 (-14) rfl
          have y1' : f_X12_lay Tm mb 14 0 = some B0 := y1
          rw [h1' rfl Tm]
          simp only [hm.rv, Option.bind_some, y1']
          have e9 : (C ++ [(14, (0 : Int32))].flatMap cStep).length = C.length + 1 := by rw [List.length_append]; rfl
          have e9' : (C ++ (nn [(14, (0 : Int32))]).flatMap cStep).length = C.length + 1 := e9
          have e10 : (L ++ [(14, (0 : Int32))]).length = L.length + 1 := by rw [List.length_append]; rfl
          refine RS2.pre (L1 := [(14, 0)]) (c1 := cb + 1) (Q' := Qp 0) x2 y2 (by show 1 + cb ≤ cb + 1; omega) (by show 1 + cb ≤ cb + 1; omega) h12_14 ?_ (fun L' hL' t ht => ?_)
          · refine go A0 B0 _ _ (cb + 1) x3 y3 (by omega) (by omega) (by omega) (fun A A1 z1 z2 z3 => ?_)
            rw [f_X7_readCondition_31]
            unfold f_X7_readCondition_60 f_X7_readCondition_74 f_X7_readCondition_92 f_X7_readCondition_100 f_X7_readCondition_105
            simp only [hc.1.g3, hc.1.r3, hc.1.sz, hc.gs, i1, eq_self, if_true, Option.bind_some, if_neg nsz, if_neg q3, show nI 1 = 1 from rfl, hc.1.gl, hc.1.rl, x1, x3.1.rv, z1, z2, z3, nI_1]
          · rw [tyD_app, if_neg (by omega)]
            exact hL' t ht
      · have m3 : ¬ nI (tkn ts c).1 = 14 := (hm.ct (s := 14) (by omega) s14).1
        have m4 : ¬ nI (mc (tkn ts c).1) = 10 := (hm.ct (s := 14) (by omega) s14).2
        have ec : f_X7_readCondition_31 (fu + 1) Tc r (nI p) (nI x) = some (r, nI p, Tc) := by
          rw [f_X7_readCondition_31]
          simp only [hc.1.g3, hc.1.r3, hc.1.sz, hc.gs, Option.bind_some, if_neg nsz, if_neg m1, if_neg m3]
        have ec' : (f_X7_readCondition_31 (fu + 1) Tc r (nI p) (nI x)).bind G = f_X7_readCondition_133 Tc r (nI p) := (bnd ec).trans (hG _ _ _)
        rw [ec']
        have em : ∀ {T' : St} {L' : List Sps}, PMr mb tb n ts T' c 0 L' → f_X12_any_9 (fo + 1) T' mb = some (1, T') := fun h => by
          rw [f_X12_any_9]
          simp only [h.g46, if_neg m4, Option.bind_some]
        unfold f_X7_readCondition_133
        rcases hp with rfl | rfl
        · rw [h1 rfl, em hm, if_pos (by rfl)]
          refine Or.inl ⟨Tc, Tm, c, [], rfl, rfl, CWr.rf _, RWm.rf _, by show PCr r la l ts f Tc c 0 (C ++ []); rw [List.append_nil]; exact hc, by rw [List.append_nil]; exact hm, by show 0 + cb ≤ c; omega, by show 0 + cb ≤ c; omega, fun w u z => (by cases z), fun t _ => rfl⟩
        · obtain ⟨A0, B0, x1, y1, x2, y2, x3, y3⟩ := lay2 hc hm (by omega) (by omega) 14 0 (-14) rfl
          have y1' : f_X12_lay Tm mb 14 0 = some B0 := y1
          rw [h1' rfl Tm, if_neg (by decide)]
          simp only [hm.rv, Option.bind_some, y1', hc.1.gl, hc.1.rl, x1, em y3]
          exact Or.inl ⟨A0, B0, c, [(14, 0)], rfl, rfl, x2, y2, x3, y3, by show 1 + cb ≤ c; omega, by show 1 + cb ≤ c; omega, h12_14, fun t _ => rfl⟩
/-- the tests of a condition, up to its end -/
def cT (T : St) (r : Nat) : Option St := (f_X7_readTest T r).bind fun S26 => (f_X7_readCondition_31 FU S26 r 0 0).bind fun (x0, x1_31, S_31) => f_X7_readCondition_133 S_31 x0 x1_31
theorem J_tests (hc : PCr r la l ts f Tc c 0 C) (hm : PMr mb tb n ts Tm c 0 L) (e4 : C.length ≤ c) (e5 : L.length ≤ c) : RS2 (Ec r) r la l f mb tb n ts Tc Tm c 0 C L (cT Tc r) (f_X12_any Tm mb) (UP true 22) := by
  have h601 := hm.1.2.2.2.2
  have q3 : ¬ ((1 : Int32) = 0) := by decide
  unfold cT f_X12_any f_X12_all
  rcases J_Test hc hm e4 e5 with ⟨A1, B1, c1, L1, u1, v1, u2, v2, u3, v3, u4, u4', u6, u5⟩ | ⟨A1, B1, fl, fp, u1, v1, u2, v2, u3, u4, u5⟩
  · have e11 : (C ++ (nn L1).flatMap cStep).length = C.length + ((nn L1).flatMap cStep).length := by rw [List.length_append]
    have e12 : (L ++ L1).length = L.length + L1.length := by rw [List.length_append]
    simp only [hm.rv, u1, v1, Option.bind_some, if_neg q3]
    refine RS2.pre (L1 := L1) (c1 := c1) (Q' := Qp 0) u2 v2 (by omega) (by omega) u6 ?_ (fun L' hL' t ht => ?_)
    · exact J_c31 ts.length FU FU FU 0 0 c1 A1 B1 c1 _ _ _ _ (by unfold FU; omega) (by omega) (by unfold FU; omega) (by unfold FU; omega) (by unfold FU; omega) (by omega) (Or.inl rfl) (fun _ _ _ => rfl) (fun S => rfl) (fun _ S => rfl) (fun z => by omega) u3 v3 (by omega) (by omega) (by omega)
    · rw [tyD_app, u5 t (by omega)]
      exact hL' t ht
  · obtain ⟨fv, hfv⟩ : ∃ k, FU = k + 1 := ⟨FU - 1, by unfold FU; omega⟩
    obtain ⟨A3, x4, x5, x6⟩ := F_c133 u3 0
    refine Or.inr ⟨A3, B1, fl, fp, ?_, ?_, u2.tr x5, v2, x6, u4, u5⟩
    · simp only [u1, Option.bind_some]
      rw [hfv]
      exact (bnd (F_c31 fv 0 0 u3)).trans x4
    · simp only [hm.rv, v1, Option.bind_some, if_true]
end Tss
