/-! READS: nots -/
theorem no12 {d : Nat} : ∀ (l : List Sps) (t t' : List Bool), tyD d l t = some t' → true ∉ t' → true ∉ t ∧ ∀ q ∈ l, q.1 ≠ 12 := by
  intro l
  induction l with
  | nil =>
    intro t t' h h1
    cases h
    exact ⟨h1, fun q hq => (by cases hq)⟩
  | cons q l ih =>
    intro t t' h h1
    unfold tyD at h
    obtain ⟨t1, h2, h3⟩ := Option.bind_eq_some_iff.mp h
    obtain ⟨h4, h5⟩ := ih t1 t' h3 h1
    have key : true ∉ t ∧ q.1 ≠ 12 := by
      rcases ty1_c h2 with ⟨e, -, -, rfl⟩ | ⟨e, -, rfl⟩ | ⟨e, u, rfl, rfl⟩ | ⟨e, u, rfl, -, -, rfl⟩ | ⟨e, u, rfl, rfl⟩ | ⟨e, u, rfl, rfl⟩ | ⟨e, u, rfl, rfl⟩
      · exact ⟨fun z => h4 (List.mem_cons_of_mem _ z), by omega⟩
      · exact ⟨fun z => h4 (List.mem_cons_of_mem _ z), by omega⟩
      · refine ⟨fun z => ?_, by omega⟩
        rcases List.mem_cons.mp z with y | y
        · cases y
        · exact h4 y
      · exact ⟨h4, by omega⟩
      · exact absurd List.mem_cons_self h4
      · exact absurd List.mem_cons_self h4
      · exact absurd List.mem_cons_self h4
    refine ⟨key.1, fun z hz => ?_⟩
    rcases List.mem_cons.mp hz with y | y
    · rw [y]; exact key.2
    · exact h5 z y
theorem nx1_no {q : Sps} {l : List Sps} (h : q.1 ≠ 12) : nx1 q l = q :: l := by
  rcases nx1_c q l with e | ⟨w, e, -⟩
  · exact e
  · exact absurd e h
/-- its first step is no not -/
def h12 (l : List Sps) : Prop := ∀ w u, l = w :: u → w.1 ≠ 12
theorem nx1_h {q : Sps} {l : List Sps} (h : h12 l) : nx1 q l = q :: l := by
  rcases nx1_c q l with e | ⟨w, -, e, e2⟩
  · exact e
  · exact absurd e (h w _ e2)
theorem nn_no : ∀ (a b : List Sps), (∀ q ∈ a, q.1 ≠ 12) → nn (a ++ b) = a ++ nn b := by
  intro a
  induction a with
  | nil => intro b _; rfl
  | cons q a ih =>
    intro b h
    show nx1 q (nn (a ++ b)) = q :: (a ++ nn b)
    rw [ih b (fun z hz => h z (List.mem_cons_of_mem _ hz)), nx1_no (h q List.mem_cons_self)]
theorem nn_app : ∀ (a b : List Sps), h12 (nn b) → nn (a ++ b) = nn a ++ nn b := by
  intro a
  induction a with
  | nil => intro b _; rfl
  | cons q a ih =>
    intro b h
    show nx1 q (nn (a ++ b)) = nx1 q (nn a) ++ nn b
    rw [ih b h]
    cases e : nn a with
    | nil =>
      show nx1 q (nn b) = [q] ++ nn b
      rw [nx1_h h]
      rfl
    | cons w u =>
      show (if q.1 = 12 ∧ w.1 = 12 then u ++ nn b else q :: w :: (u ++ nn b)) = (if q.1 = 12 ∧ w.1 = 12 then u else q :: w :: u) ++ nn b
      split <;> rfl
theorem h12_app {a b : List Sps} (ha : h12 a) (hb : h12 b) : h12 (a ++ b) := by
  intro w u e
  cases a with
  | nil => exact hb w u e
  | cons x y =>
    have e' : x :: (y ++ b) = w :: u := e
    obtain ⟨rfl, -⟩ := List.cons.inj e'
    exact ha x y rfl
theorem h12_no {a : List Sps} (h : ∀ q ∈ a, q.1 ≠ 12) (b : List Sps) (hn : a ≠ []) : h12 (a ++ b) := by
  intro w u e
  cases a with
  | nil => exact absurd rfl hn
  | cons x y =>
    have e' : x :: (y ++ b) = w :: u := e
    obtain ⟨rfl, -⟩ := List.cons.inj e'
    exact h x List.mem_cons_self
theorem nn_rep : ∀ m : Nat, nn (List.replicate m ((12 : Nat), (0 : Int32))) = if m % 2 = 1 then [((12 : Nat), (0 : Int32))] else [] := by
  intro m
  induction m with
  | zero => rfl
  | succ m ih =>
    rw [List.replicate_succ, nn_cons, ih]
    by_cases e : m % 2 = 1
    · rw [if_pos e, if_neg (by omega)]
      rfl
    · rw [if_neg e, if_pos (by omega)]
      rfl
theorem ty_rep (d : Nat) (t : List Bool) : ∀ m : Nat, tyD d (List.replicate m ((12 : Nat), (0 : Int32))) (true :: t) = some (true :: t) := by
  intro m
  induction m with
  | zero => rfl
  | succ m ih =>
    rw [List.replicate_succ]
    exact ih
theorem rem2 : ∀ k, k < 9 → remI (nI k) 2 = some (nI (k % 2)) := by decide +kernel
/-- what both do from related states, over a test: the class's nots are one or none -/
def RS2 (E : St → Option St) (r la l : Nat) (f : Nat → Nat) (mb : Nat) (tb : Nat → Nat) (n : Nat) (ts : List Tk) (Tc Tm : St) (c d : Nat) (C : List Int32) (L : List Sps) (oc : Option St) (om : Option (Int32 × St)) (Q : List Sps → Prop) : Prop :=
  (∃ Tc' Tm' c' L', oc = E Tc' ∧ om = some (1, Tm') ∧ CWr r la Tc Tc' ∧ RWm mb Tm Tm' ∧ PCr r la l ts f Tc' c' d (C ++ (nn L').flatMap cStep) ∧ PMr mb tb n ts Tm' c' d (L ++ L') ∧ ((nn L').flatMap cStep).length + c ≤ c' ∧ L'.length + c ≤ c' ∧ h12 (nn L') ∧ Q L') ∨ (∃ Tc' Tm' fl fp, oc = E Tc' ∧ om = some (0, Tm') ∧ CWr r la Tc Tc' ∧ RWm mb Tm Tm' ∧ FC r la l ts f Tc' fl fp ∧ mi Tm' mb 49 = fl ∧ mi Tm' mb 50 = fp)
/-- a test, behind k nots -/
def RT (r la l : Nat) (f : Nat → Nat) (mb : Nat) (tb : Nat → Nat) (n : Nat) (ts : List Tk) (Tc Tm : St) (c d k : Nat) (C : List Int32) (L : List Sps) (oc : Option St) (om : Option (Int32 × St)) : Prop :=
  (∃ Tc' Tm' c' L0 m, oc = some Tc' ∧ om = some (1, Tm') ∧ CWr r la Tc Tc' ∧ RWm mb Tm Tm' ∧ PCr r la l ts f Tc' c' (d - k) (C ++ (L0.flatMap cStep ++ if (k + m) % 2 = 1 then [-16] else [])) ∧ PMr mb tb n ts Tm' c' d (L ++ (L0 ++ List.replicate m ((12 : Nat), (0 : Int32)))) ∧ (L0.flatMap cStep).length + m + c ≤ c' ∧ (∀ q ∈ L0, q.1 ≠ 12) ∧ L0 ≠ [] ∧ UP true (20 - 2 * d) L0) ∨ (∃ Tc' Tm' fl fp, oc = some Tc' ∧ om = some (0, Tm') ∧ CWr r la Tc Tc' ∧ RWm mb Tm Tm' ∧ FC r la l ts f Tc' fl fp ∧ mi Tm' mb 49 = fl ∧ mi Tm' mb 50 = fp)
section Tst
variable {r la l mb n : Nat} {tb : Nat → Nat} {ts : List Tk} {f : Nat → Nat} {Tc Tm Ac Am : St} {c d : Nat} {C C1 : List Int32} {L L1 : List Sps} {Q Q' : List Sps → Prop}
theorem RS2.pre {E : St → Option St} {c1 : Nat} {oc : Option St} {om : Option (Int32 × St)} (wc : CWr r la Tc Ac) (wm : RWm mb Tm Am) (hl : ((nn L1).flatMap cStep).length + c ≤ c1) (hl2 : L1.length + c ≤ c1) (hh : h12 (nn L1)) (h : RS2 E r la l f mb tb n ts Ac Am c1 d (C ++ (nn L1).flatMap cStep) (L ++ L1) oc om Q') (hQ : ∀ L', Q' L' → Q (L1 ++ L')) : RS2 E r la l f mb tb n ts Tc Tm c d C L oc om Q := by
  rcases h with ⟨Tc', Tm', c', L', a1, a2, a3, a4, a5, a6, a7, a8, a9, a10⟩ | ⟨Tc', Tm', fl, fp, a1, a2, a3, a4, a5, a6, a7⟩
  · have en := nn_app L1 L' a9
    refine Or.inl ⟨Tc', Tm', c', L1 ++ L', a1, a2, wc.tr a3, wm.tr a4, ?_, ?_, ?_, ?_, ?_, hQ _ a10⟩
    · rw [en, List.flatMap_append, ← List.append_assoc]; exact a5
    · rw [← List.append_assoc]; exact a6
    · rw [en, List.flatMap_append, List.length_append]; omega
    · rw [List.length_append]; omega
    · rw [en]; exact h12_app hh a9
  · exact Or.inr ⟨Tc', Tm', fl, fp, a1, a2, wc.tr a3, wm.tr a4, a5, a6, a7⟩
/-- a comparison, behind k nots -/
theorem J_cmp {gu : St → Nat → Option (Int32 × St)} {k : Nat} (hd : d ≤ 8) (hk : k ≤ d) (hc : PCr r la l ts f Tc c d C) (hm : PMr mb tb n ts Tm c d L) (e4 : C.length + k ≤ c) (e5 : L.length + k ≤ c) (s16 : (tkn ts c).1 ≠ 16) : RT r la l f mb tb n ts Tc Tm c d k C L (f_X7_readTest_34 Tc r (nI k)) (f_X12_one gu Tm mb) := by
  have h601 := hm.1.2.2.2.2
  have tx := hm.tx
  have hcl := hc.2.1
  have q3 : ¬ ((1 : Int32) = 0) := by decide
  unfold f_X7_readTest_34 f_X12_one
  have m2 : ¬ nI (mc (tkn ts c).1) = 12 := (hm.ct (s := 16) (by omega) s16).2
  rcases J_Terms hd Tc Tm c C L hc hm (by omega) (by omega) with ⟨A1, B1, c1, L1, u1, v1, u2, v2, u3, v3, u4, u5⟩ | ⟨A1, B1, fl, fp, u1, v1, u2, v2, u3, u4, u5⟩
  · have u1' : F_X7_readTerms Tc r = some A1 := u1
    have v1' : F_X12_sumUp Tm mb = some (1, B1) := v1
    have lc1 := cS_len L1
    have e11 : (C ++ L1.flatMap cStep).length = C.length + (L1.flatMap cStep).length := by rw [List.length_append]
    have e12 : (L ++ L1).length = L.length + L1.length := by rw [List.length_append]
    have tx1 := v3.tx
    by_cases sc : 24 ≤ (tkn ts c1).1 ∧ (tkn ts c1).1 ≤ 26
    · have lo : ¬ (nI (tkn ts c1).1 < 24) := by rw [lt_i, nI_toInt (by omega)]; simp only [Int32.reduceToInt]; omega
      have hi : nI (tkn ts c1).1 ≤ 26 := by rw [le_i, nI_toInt (by omega)]; simp only [Int32.reduceToInt]; omega
      obtain ⟨j, hj⟩ : ∃ j, j = (tkn ts c1).1 - 15 := ⟨_, rfl⟩
      have tabc : cStep (j, 0) = [-nI (tkn ts c1).1] ∧ ∀ t : List Bool, ty1 32 (j, 0) (false :: false :: t) = some (true :: t) := by
        rw [hj]
        have : (tkn ts c1).1 = 24 ∨ (tkn ts c1).1 = 25 ∨ (tkn ts c1).1 = 26 := by omega
        rcases this with z | z | z <;> rw [z] <;> exact ⟨rfl, fun t => rfl⟩
      have tabm : (if nI (mc (tkn ts c1).1) = 60 then f_X12_one_96 gu B1 mb 9 else (if nI (mc (tkn ts c1).1) = 61 then f_X12_one_96 gu B1 mb 10 else (if nI (mc (tkn ts c1).1) = 62 then f_X12_one_96 gu B1 mb 11 else f_X12_one_96 gu B1 mb (-1)))) = f_X12_one_96 gu B1 mb (nI j) := by
        rw [hj]
        have : (tkn ts c1).1 = 24 ∨ (tkn ts c1).1 = 25 ∨ (tkn ts c1).1 = 26 := by omega
        rcases this with z | z | z <;> rw [z]
        · rw [if_pos (by decide)]; rfl
        · rw [if_neg (by decide), if_pos (by decide)]; rfl
        · rw [if_neg (by decide), if_neg (by decide), if_pos (by decide)]; rfl
      have kn : ¬ (nI j = -1) := nI_ne1 (by omega)
      obtain ⟨A2, B2, x1, y1, x2, y2, x3, y3, x4⟩ := adv2 u3 v3 (by omega)
      rcases J_Terms hd A2 B2 (c1 + 1) _ _ x3 y3 (by omega) (by omega) with ⟨A3, B3, c3, L3, w1, z1, w2, z2, w3, z3, w4, w5⟩ | ⟨A3, B3, fl, fp, w1, z1, w2, z2, w3, w4, w5⟩
      · have w1' : F_X7_readTerms A2 r = some A3 := w1
        have z1' : F_X12_sumUp B2 mb = some (1, B3) := z1
        have lc3 := cS_len L3
        have e13 : (C ++ L1.flatMap cStep ++ L3.flatMap cStep).length = C.length + (L1.flatMap cStep).length + (L3.flatMap cStep).length := by rw [List.length_append, e11]
        have e14 : (L ++ L1 ++ L3).length = L.length + L1.length + L3.length := by rw [List.length_append, e12]
        have hc3 := w3.2.1
        obtain ⟨A4, B4, x5, y5, x6, y6, x7, y7⟩ := lay2 w3 z3 (by omega) (by omega) j 0 _ tabc.1
        have e0 : ([(j, (0 : Int32))].flatMap cStep).length = 1 := by rw [List.flatMap_cons, List.flatMap_nil, List.append_nil, tabc.1]; rfl
        have e15 : (C ++ L1.flatMap cStep ++ L3.flatMap cStep ++ [(j, (0 : Int32))].flatMap cStep).length = C.length + (L1.flatMap cStep).length + (L3.flatMap cStep).length + 1 := by rw [List.length_append, e13, e0]
        have eC : (L1 ++ L3 ++ [(j, (0 : Int32))]).flatMap cStep = L1.flatMap cStep ++ L3.flatMap cStep ++ [(j, (0 : Int32))].flatMap cStep := by rw [List.flatMap_append, List.flatMap_append]
        have eCl : ((L1 ++ L3 ++ [(j, (0 : Int32))]).flatMap cStep).length = (L1.flatMap cStep).length + (L3.flatMap cStep).length + 1 := by rw [eC, List.length_append, List.length_append, e0]
        have n1 : ∀ q ∈ L1, q.1 ≠ 12 := (no12 L1 [] [false] (u5 [] (by show 0 + _ ≤ 32; omega)) (by decide)).2
        have n3 : ∀ q ∈ L3, q.1 ≠ 12 := (no12 L3 [] [false] (w5 [] (by show 0 + _ ≤ 32; omega)) (by decide)).2
        have n0 : ∀ q ∈ L1 ++ L3 ++ [(j, (0 : Int32))], q.1 ≠ 12 := fun q hq => by
          rcases List.mem_append.mp hq with y | y
          · rcases List.mem_append.mp y with y | y
            · exact n1 q y
            · exact n3 q y
          · rw [List.mem_singleton] at y
            rw [y]
            show j ≠ 12
            omega
        have hup : UP true (20 - 2 * d) (L1 ++ L3 ++ [(j, (0 : Int32))]) := fun t ht => by
          rw [tyD_app, tyD_app, u5 t (by omega)]
          show ((tyD 32 L3 (false :: t)).bind _) = _
          rw [w5 (false :: t) (by show t.length + 1 + _ ≤ 32; omega)]
          show (ty1 32 (j, 0) (false :: false :: t)).bind _ = _
          rw [tabc.2 t]
          rfl
        have sub : nI d - nI k = nI (d - k) := pk_sub hk
        -- the class's end
        have fin : ∀ (A5 : St) (C5 : List Int32), CWr r la A4 A5 → PCr r la l ts f A5 c3 d C5 → ∃ A6, f_X7_readTest_94 A5 r (nI k) = some A6 ∧ CWr r la A4 A6 ∧ PCr r la l ts f A6 c3 (d - k) C5 := fun A5 C5 t1 t2 => by
          obtain ⟨g1, g2⟩ := X_dep t2 (d - k)
          refine ⟨_, ?_, t1.tr g1, g2⟩
          have g8 : getI A5 (some r) 8 8 = some (nI d) := by rw [getI_s t2.1.1, t2.2.2.2.2.2.2.2.2.1]
          unfold f_X7_readTest_94
          simp only [g8, sub, putI_s t2.1.1, Option.bind_some]
        have mid : ∃ A6, (if nI (k % 2) = 1 then (getR A4 (some r) 8 0).bind fun v86 => (rcv A4 v86 7).bind fun b91 => (f_X6_addCode A4 b91 (-16)).bind fun S91 => f_X7_readTest_94 S91 r (nI k) else f_X7_readTest_94 A4 r (nI k)) = some A6 ∧ CWr r la A4 A6 ∧ PCr r la l ts f A6 c3 (d - k) (C ++ ((L1 ++ L3 ++ [(j, (0 : Int32))]).flatMap cStep ++ if (k + 0) % 2 = 1 then [-16] else [])) := by
          have eA : C ++ L1.flatMap cStep ++ L3.flatMap cStep ++ [(j, (0 : Int32))].flatMap cStep = C ++ (L1 ++ L3 ++ [(j, (0 : Int32))]).flatMap cStep := by rw [eC, List.append_assoc, List.append_assoc, List.append_assoc]
          by_cases o : k % 2 = 1
          · obtain ⟨A5, p1, p2, p3⟩ := X_code x7 (by omega) (-16)
            obtain ⟨A6, g1, g2, g3⟩ := fin A5 _ p2 p3
            refine ⟨A6, ?_, g2, ?_⟩
            · rw [o, if_pos (by rfl)]
              simp only [x7.1.gl, x7.1.rl, p1, g1, Option.bind_some]
            · rw [Nat.add_zero, if_pos o, ← List.append_assoc, ← eA]
              exact g3
          · obtain ⟨A6, g1, g2, g3⟩ := fin A4 _ (CWr.rf _) x7
            refine ⟨A6, ?_, g2, ?_⟩
            · rw [show k % 2 = 0 by omega, if_neg (by decide)]
              exact g1
            · rw [Nat.add_zero, if_neg o, List.append_nil, ← eA]
              exact g3
        obtain ⟨A6, g1, g2, g3⟩ := mid
        refine Or.inl ⟨A6, B4, c3, L1 ++ L3 ++ [(j, 0)], 0, ?_, ?_, (((u2.tr x2).tr w2).tr x6).tr g2, ((v2.tr y2).tr z2).tr y6, g3, ?_, by omega, n0, ?_, hup⟩
        · simp only [hc.1.rv, u1', u3.gs, if_neg lo, if_pos hi, Option.bind_some, u3.1.rv, x1, x3.1.rv, w1', w3.1.gl, w3.1.rl, x5, rem2 k (by omega)]
          exact g1
        · simp only [hm.g46, if_neg m2, Option.bind_some, hm.rv, v1', if_neg q3, v3.g46]
          rw [tabm]
          unfold f_X12_one_96
          simp only [if_neg kn, v3.rv, y1, Option.bind_some, y3.rv, z1', if_neg q3, z3.rv, y5]
        · rw [List.replicate_zero, List.append_nil, ← List.append_assoc, ← List.append_assoc]; exact y7
        · intro z
          have := congrArg List.length z
          rw [List.length_append] at this
          exact absurd this (by show _ + 1 ≠ 0; omega)
      · have w1' : F_X7_readTerms A2 r = some A3 := w1
        have z1' : F_X12_sumUp B2 mb = some (0, B3) := z1
        obtain ⟨A4, x5, x6, x7⟩ := F_code w3 (-nI (tkn ts c1).1)
        have fin : ∀ (A5 : St), CWr r la A4 A5 → FC r la l ts f A5 fl fp → ∃ A6, f_X7_readTest_94 A5 r (nI k) = some A6 ∧ CWr r la A4 A6 ∧ FC r la l ts f A6 fl fp := fun A5 t1 t2 => by
          obtain ⟨g1, g2⟩ := F_set t2 8 rfl (mi A5 r 8 - nI k)
          refine ⟨_, ?_, t1.tr g1, g2⟩
          unfold f_X7_readTest_94
          simp only [getI_s t2.1.1, putI_s t2.1.1, Option.bind_some]
        have mid : ∃ A6, (if nI (k % 2) = 1 then (getR A4 (some r) 8 0).bind fun v86 => (rcv A4 v86 7).bind fun b91 => (f_X6_addCode A4 b91 (-16)).bind fun S91 => f_X7_readTest_94 S91 r (nI k) else f_X7_readTest_94 A4 r (nI k)) = some A6 ∧ CWr r la A4 A6 ∧ FC r la l ts f A6 fl fp := by
          by_cases o : k % 2 = 1
          · obtain ⟨A5, p1, p2, p3⟩ := F_code x7 (-16)
            obtain ⟨A6, g1, g2, g3⟩ := fin A5 p2 p3
            refine ⟨A6, ?_, g2, g3⟩
            rw [o, if_pos (by rfl)]
            simp only [x7.1.gl, x7.1.rl, p1, g1, Option.bind_some]
          · obtain ⟨A6, g1, g2, g3⟩ := fin A4 (CWr.rf _) x7
            refine ⟨A6, ?_, g2, g3⟩
            rw [show k % 2 = 0 by omega, if_neg (by decide)]
            exact g1
        obtain ⟨A6, g1, g2, g3⟩ := mid
        refine Or.inr ⟨A6, B3, fl, fp, ?_, ?_, (((u2.tr x2).tr w2).tr x6).tr g2, (v2.tr y2).tr z2, g3, w4, w5⟩
        · simp only [hc.1.rv, u1', u3.gs, if_neg lo, if_pos hi, Option.bind_some, u3.1.rv, x1, x3.1.rv, w1', w3.1.gl, w3.1.rl, x5, rem2 k (by omega)]
          exact g1
        · simp only [hm.g46, if_neg m2, Option.bind_some, hm.rv, v1', if_neg q3, v3.g46]
          rw [tabm]
          unfold f_X12_one_96
          simp only [if_neg kn, v3.rv, y1, Option.bind_some, y3.rv, z1', if_true]
    · have n24 : ¬ nI (mc (tkn ts c1).1) = 60 := (v3.ct (s := 24) (by omega) (by omega)).2
      have n25 : ¬ nI (mc (tkn ts c1).1) = 61 := (v3.ct (s := 25) (by omega) (by omega)).2
      have n26 : ¬ nI (mc (tkn ts c1).1) = 62 := (v3.ct (s := 26) (by omega) (by omega)).2
      have lo : nI (tkn ts c1).1 < 24 := by rw [lt_i, nI_toInt (by omega)]; simp only [Int32.reduceToInt]; omega
      obtain ⟨A2, B2, x1, y1, x2, y2, x3, y3, y4⟩ := bad2 u3 v3 (x := 1) (by decide)
      refine Or.inr ⟨A2, B2, 1, _, ?_, ?_, u2.tr x2, v2.tr y2, x3, y3, y4⟩
      · unfold f_X7_readTest_55
        simp only [hc.1.rv, u1', u3.gs, if_pos lo, Option.bind_some, u3.1.rv, x1]
      · unfold f_X12_one_96
        simp only [hm.g46, if_neg m2, Option.bind_some, hm.rv, v1', if_neg q3, v3.g46, if_neg n24, if_neg n25, if_neg n26, if_true, v3.rv, y1, zchk0]
  · have u1' : F_X7_readTerms Tc r = some A1 := u1
    have v1' : F_X12_sumUp Tm mb = some (0, B1) := v1
    obtain ⟨A2, x1, x2, x3⟩ := F_ref u3 1
    refine Or.inr ⟨A2, B1, fl, fp, ?_, ?_, u2.tr x2, v2, x3, u4, u5⟩
    · unfold f_X7_readTest_55
      simp only [hc.1.rv, u1', u3.gs, Option.bind_some]
      rw [if_pos (by decide)]
      simp only [u3.1.rv, x1, Option.bind_some]
    · simp only [hm.g46, if_neg m2, Option.bind_some, hm.rv, v1', if_true]
theorem J_T : ∀ (D d k fu : Nat) (G : Nat × Int32 × St → Option St) (Tc Tm : St) (c : Nat) (C : List Int32) (L : List Sps), d ≤ 8 → 8 - d < D → k ≤ d → 8 - d < fu → (∀ b S, G (r, b, S) = f_X7_readTest_34 S r b) → PCr r la l ts f Tc c d C → PMr mb tb n ts Tm c d L → C.length + k ≤ c → L.length + k ≤ c → RT r la l f mb tb n ts Tc Tm c d k C L ((f_X7_readTest_2 fu Tc r (nI k)).bind G) (r_X12_one D Tm mb) := by
  intro D
  induction D with
  | zero => intro d k fu G Tc Tm c C L h1 h2; omega
  | succ D ih =>
    intro d k fu G Tc Tm c C L hd h2 hk h3 hG hc hm e4 e5
    obtain ⟨fu, rfl⟩ : ∃ j, fu = j + 1 := ⟨fu - 1, by omega⟩
    have h601 := hm.1.2.2.2.2
    have hcl := hc.2.1
    have q3 : ¬ ((1 : Int32) = 0) := by decide
    have n8 : ¬ ((8 : Int32) < nI k) := by rw [lt_i, nI_toInt (by omega)]; simp only [Int32.reduceToInt]; omega
    have e1 : r_X12_one (D + 1) Tm mb = f_X12_one (r_X12_one D) Tm mb := rfl
    rw [e1]
    by_cases s16 : (tkn ts c).1 = 16
    · have i1 : nI (tkn ts c).1 = 16 := by rw [s16]; rfl
      have i2 : nI (mc (tkn ts c).1) = 12 := by rw [s16]; rfl
      by_cases d8 : d < 8
      · obtain ⟨A0, A, B, a1, a0, a0', b1, a2, b2, a3, b3⟩ := opens2 hc hm (by omega) d8
        have ec : f_X7_readTest_2 (fu + 1) Tc r (nI k) = f_X7_readTest_2 fu A r (nI (k + 1)) := by
          rw [f_X7_readTest_2]
          simp only [if_neg n8, hc.gs, i1, eq_self, if_true, Option.bind_some, hc.1.rv, a1, if_neg q3, a0, a0', nI_1]
        rw [ec]
        rcases ih (d + 1) (k + 1) fu G A B (c + 1) C L (by omega) (by omega) (by omega) (by omega) hG a3 b3 (by omega) (by omega) with ⟨A1, B1, c1, L0, m, u1, v1, u2, v2, u3, v3, u4, u5, u6, u7⟩ | ⟨A1, B1, fl, fp, u1, v1, u2, v2, u3, u4, u5⟩
        · have g52 : getI B1 (some mb) 13 52 = some (nI (d + 1)) := by rw [mI v3.1.1, v3.2.2.2.2.2.2.2.2.1]
          obtain ⟨y1, y2⟩ := M_dep v3 d
          have sb1 : nI (d + 1) - 1 = nI d := by
            have z : nI (d + 1) - nI 1 = nI (d + 1 - 1) := pk_sub (show 1 ≤ d + 1 by omega)
            rw [Nat.add_sub_cancel] at z
            exact z
          have lc := cS_len L0
          have hc1 := u3.2.1
          have el : (L ++ (L0 ++ List.replicate m ((12 : Nat), (0 : Int32)))).length = L.length + (L0.length + m) := by rw [List.length_append, List.length_append, List.length_replicate]
          obtain ⟨B2, y3, y4, y5⟩ := M_lay y2 (by omega) 12 0
          have y3' : f_X12_lay (setI B1 mb 52 (nI d)) mb 12 0 = some B2 := y3
          refine Or.inl ⟨A1, B2, c1, L0, m + 1, u1, ?_, a2.tr u2, ((b2.tr v2).tr y1).tr y4, ?_, ?_, by omega, u5, u6, fun t ht => u7 t (by omega)⟩
          · unfold f_X12_one
            simp only [hm.g46, i2, eq_self, if_true, Option.bind_some, hm.rv, b1, if_neg q3, b3.rv, v1, g52, sb1, mP v3.1.1, y2.rv, y3']
          · rw [show d - k = d + 1 - (k + 1) by omega, show k + (m + 1) = k + 1 + m by omega]
            exact u3
          · rw [List.replicate_succ', ← List.append_assoc L0, ← List.append_assoc L]
            exact y5
        · refine Or.inr ⟨A1, B1, fl, fp, u1, ?_, a2.tr u2, b2.tr v2, u3, u4, u5⟩
          unfold f_X12_one
          simp only [hm.g46, i2, eq_self, if_true, Option.bind_some, hm.rv, b1, if_neg q3, b3.rv, v1]
      · obtain rfl : d = 8 := by omega
        obtain ⟨A, B, a1, b1, a2, b2, a3, b3, b4⟩ := opens8 hc hm
        obtain ⟨A1, x1, x2, x3⟩ := F_t34 (nI k) A _ _ a3
        have x1' : f_X7_readTest_34 A r (nI k) = some A1 := x1
        have ec : f_X7_readTest_2 (fu + 1) Tc r (nI k) = some (r, nI k, A) := by
          rw [f_X7_readTest_2]
          simp only [if_neg n8, hc.gs, i1, eq_self, if_true, Option.bind_some, hc.1.rv, a1]
        refine Or.inr ⟨A1, B, 3, _, (bnd ec).trans ((hG _ _).trans x1'), ?_, a2.tr x2, b2, x3, b3, b4⟩
        unfold f_X12_one
        simp only [hm.g46, i2, eq_self, if_true, Option.bind_some, hm.rv, b1]
    · have m1 : ¬ nI (tkn ts c).1 = 16 := (hm.ct (s := 16) (by omega) s16).1
      have ec : f_X7_readTest_2 (fu + 1) Tc r (nI k) = some (r, nI k, Tc) := by
        rw [f_X7_readTest_2]
        simp only [if_neg n8, hc.gs, if_neg m1, Option.bind_some]
      have ec' : (f_X7_readTest_2 (fu + 1) Tc r (nI k)).bind G = f_X7_readTest_34 Tc r (nI k) := (bnd ec).trans (hG _ _)
      rw [ec']
      exact J_cmp hd hk hc hm e4 e5 s16
theorem J_Test (hc : PCr r la l ts f Tc c 0 C) (hm : PMr mb tb n ts Tm c 0 L) (e4 : C.length ≤ c) (e5 : L.length ≤ c) : RS2 some r la l f mb tb n ts Tc Tm c 0 C L (f_X7_readTest Tc r) (F_X12_one Tm mb) (UP true 20) := by
  have z := J_T (r := r) (la := la) (l := l) (mb := mb) (n := n) (tb := tb) (ts := ts) (f := f) 32 0 0 FU (fun (x0, x1_2, S_2) => f_X7_readTest_34 S_2 x0 x1_2) Tc Tm c C L (by omega) (by omega) (by omega) (by unfold FU; omega) (fun _ _ => rfl) hc hm (by omega) (by omega)
  have e1 : f_X7_readTest Tc r = (f_X7_readTest_2 FU Tc r (nI 0)).bind (fun (x0, x1_2, S_2) => f_X7_readTest_34 S_2 x0 x1_2) := rfl
  rw [e1]
  rcases z with ⟨A1, B1, c1, L0, m, u1, v1, u2, v2, u3, v3, u4, u5, u6, u7⟩ | ⟨A1, B1, fl, fp, u1, v1, u2, v2, u3, u4, u5⟩
  · have en : nn (L0 ++ List.replicate m ((12 : Nat), (0 : Int32))) = L0 ++ if m % 2 = 1 then [((12 : Nat), (0 : Int32))] else [] := by rw [nn_no _ _ u5, nn_rep]
    have ef : (nn (L0 ++ List.replicate m ((12 : Nat), (0 : Int32)))).flatMap cStep = L0.flatMap cStep ++ if (0 + m) % 2 = 1 then [-16] else [] := by
      rw [en, List.flatMap_append, Nat.zero_add]
      by_cases o : m % 2 = 1
      · rw [if_pos o, if_pos o]; rfl
      · rw [if_neg o, if_neg o]; rfl
    have lc := cS_len L0
    refine Or.inl ⟨A1, B1, c1, L0 ++ List.replicate m ((12 : Nat), (0 : Int32)), u1, v1, u2, v2, ?_, v3, ?_, ?_, ?_, fun t ht => ?_⟩
    · rw [ef]; exact u3
    · rw [ef, List.length_append, Nat.zero_add]
      by_cases o : m % 2 = 1
      · rw [if_pos o]; show _ + 1 + c ≤ c1; omega
      · rw [if_neg o]; show _ + 0 + c ≤ c1; omega
    · rw [List.length_append, List.length_replicate]; omega
    · rw [en]; exact h12_no u5 _ u6
    · rw [tyD_app, u7 t (by omega)]
      exact ty_rep 32 t m
  · exact Or.inr ⟨A1, B1, fl, fp, u1, v1, u2, v2, u3, u4, u5⟩
end Tst
