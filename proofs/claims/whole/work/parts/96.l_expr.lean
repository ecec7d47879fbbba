/-! READS: both read an expression -/
theorem tyD_app (d : Nat) : ∀ (a b : List Sps) (t : List Bool), tyD d (a ++ b) t = (tyD d a t).bind (tyD d b)
  | [], b, t => rfl
  | q :: a, b, t => by
    show (ty1 d q t).bind (tyD d (a ++ b)) = ((ty1 d q t).bind (tyD d a)).bind (tyD d b)
    cases ty1 d q t with
    | none => rfl
    | some u => exact tyD_app d a b u
theorem cS_pos (q : Sps) : 1 ≤ (cStep q).length := by
  unfold cStep
  split <;> exact Nat.le_add_left 1 _
theorem cS_len : ∀ L : List Sps, L.length ≤ (L.flatMap cStep).length
  | [] => Nat.le_refl _
  | q :: L => by
    rw [List.flatMap_cons, List.length_append]
    have := cS_pos q
    have := cS_len L
    show L.length + 1 ≤ _
    omega
def RS (r la l : Nat) (f : Nat → Nat) (mb : Nat) (tb : Nat → Nat) (n : Nat) (ts : List Tk) (Tc Tm : St) (c d : Nat) (C : List Int32) (L : List Sps) (oc : Option St) (om : Option (Int32 × St)) (Q : List Sps → Prop) : Prop :=
  (∃ Tc' Tm' c' L', oc = some Tc' ∧ om = some (1, Tm') ∧ CWr r la Tc Tc' ∧ RWm mb Tm Tm' ∧ PCr r la l ts f Tc' c' d (C ++ L'.flatMap cStep) ∧ PMr mb tb n ts Tm' c' d (L ++ L') ∧ (L'.flatMap cStep).length + c ≤ c' ∧ Q L') ∨ (∃ Tc' Tm' fl fp, oc = some Tc' ∧ om = some (0, Tm') ∧ CWr r la Tc Tc' ∧ RWm mb Tm Tm' ∧ FC r la l ts f Tc' fl fp ∧ mi Tm' mb 49 = fl ∧ mi Tm' mb 50 = fp)
/-- what both do from related states -/
def NT (r la l : Nat) (f : Nat → Nat) (mb : Nat) (tb : Nat → Nat) (n : Nat) (ts : List Tk) (fX : St → Option St) (gX : St → Option (Int32 × St)) (d : Nat) (Q : List Sps → Prop) : Prop := ∀ Tc Tm c C L, PCr r la l ts f Tc c d C → PMr mb tb n ts Tm c d L → C.length ≤ c → L.length ≤ c → RS r la l f mb tb n ts Tc Tm c d C L (fX Tc) (gX Tm) Q
/-- a piece that leaves one more upon the pile -/
def UP (b : Bool) (q : Nat) (L : List Sps) : Prop := ∀ t : List Bool, t.length + q ≤ 32 → tyD 32 L t = some (b :: t)
def UP1 (b b' : Bool) (q : Nat) (L : List Sps) : Prop := ∀ t : List Bool, t.length + q ≤ 32 → tyD 32 L (b :: t) = some (b' :: t)
section Ex
variable {r la l mb n : Nat} {tb : Nat → Nat} {ts : List Tk} {f : Nat → Nat} {Tc Tm Ac Am : St} {c d : Nat} {C C1 : List Int32} {L L1 : List Sps} {Q Q' : List Sps → Prop}
/-- a first piece is done, and a second from there -/
theorem RS.pre {c1 : Nat} {oc : Option St} {om : Option (Int32 × St)} (wc : CWr r la Tc Ac) (wm : RWm mb Tm Am) (hl : (L1.flatMap cStep).length + c ≤ c1) (h : RS r la l f mb tb n ts Ac Am c1 d (C ++ L1.flatMap cStep) (L ++ L1) oc om Q') (hQ : ∀ L', Q' L' → Q (L1 ++ L')) : RS r la l f mb tb n ts Tc Tm c d C L oc om Q := by
  rcases h with ⟨Tc', Tm', c', L', a1, a2, a3, a4, a5, a6, a7, a8⟩ | ⟨Tc', Tm', fl, fp, a1, a2, a3, a4, a5, a6, a7⟩
  · refine Or.inl ⟨Tc', Tm', c', L1 ++ L', a1, a2, wc.tr a3, wm.tr a4, ?_, ?_, ?_, hQ _ a8⟩
    · rw [List.flatMap_append, ← List.append_assoc]; exact a5
    · rw [← List.append_assoc]; exact a6
    · rw [List.flatMap_append, List.length_append]; omega
  · exact Or.inr ⟨Tc', Tm', fl, fp, a1, a2, wc.tr a3, wm.tr a4, a5, a6, a7⟩
theorem RS.nil (hc : PCr r la l ts f Tc c d C) (hm : PMr mb tb n ts Tm c d L) (hQ : Q []) : RS r la l f mb tb n ts Tc Tm c d C L (some Tc) (some (1, Tm)) Q := Or.inl ⟨Tc, Tm, c, [], rfl, rfl, CWr.rf _, RWm.rf _, by rw [List.flatMap_nil, List.append_nil]; exact hc, by rw [List.append_nil]; exact hm, by rw [List.flatMap_nil]; show 0 + c ≤ c; omega, hQ⟩
/-- both tell a fault -/
theorem bad2 (hc : PCr r la l ts f Tc c d C) (hm : PMr mb tb n ts Tm c d L) {x : Int32} (hx : x ≠ 0) : ∃ Tc' Tm', f_X7_refuse Tc r x = some Tc' ∧ f_X12_bad Tm mb x = some (0, Tm') ∧ CWr r la Tc Tc' ∧ RWm mb Tm Tm' ∧ FC r la l ts f Tc' x (nI (tkn ts c).2.1) ∧ mi Tm' mb 49 = x ∧ mi Tm' mb 50 = nI (tkn ts c).2.1 := by
  obtain ⟨A, a1, a2, a3⟩ := X_ref hc hx
  obtain ⟨B, b1, b2, b3, b4⟩ := M_bad hm x
  exact ⟨A, B, a1, b1, a2, b2, a3, b3, b4⟩
/-- both go on by one token -/
theorem adv2 (hc : PCr r la l ts f Tc c d C) (hm : PMr mb tb n ts Tm c d L) (hs : (tkn ts c).1 ≠ 0) : ∃ Tc' Tm', f_X7_advance Tc r = some Tc' ∧ f_X12_next0 Tm mb = some Tm' ∧ CWr r la Tc Tc' ∧ RWm mb Tm Tm' ∧ PCr r la l ts f Tc' (c + 1) d C ∧ PMr mb tb n ts Tm' (c + 1) d L ∧ c + 1 < ts.length := by
  obtain ⟨B, b1, b2, b3⟩ := M_adv hm hs
  obtain ⟨A, a1, a2, a3⟩ := X_adv hc b3.2.1
  exact ⟨A, B, a1, b1, a2, b2, a3, b3, b3.2.1⟩
/-- the class takes a number -/
theorem X_num (hc : PCr r la l ts f Tc c d C) (hm : PMr mb tb n ts Tm c d L) {x y : Nat} (hx : x < 2 ^ 31) (hy : y < 2 ^ 31) : (∃ Tc', (tkn ts c).1 = 2 ∧ x ≤ (tkn ts c).2.2.1 ∧ (tkn ts c).2.2.1 ≤ y ∧ f_X7_takeNumber Tc r (nI x) (nI y) = some (nI (tkn ts c).2.2.1, Tc') ∧ CWr r la Tc Tc' ∧ PCr r la l ts f Tc' (c + 1) d C) ∨ (∃ Tc', (tkn ts c).1 = 2 ∧ ¬ (x ≤ (tkn ts c).2.2.1 ∧ (tkn ts c).2.2.1 ≤ y) ∧ f_X7_takeNumber Tc r (nI x) (nI y) = some (nI x, Tc') ∧ CWr r la Tc Tc' ∧ FC r la l ts f Tc' 2 (nI (tkn ts c).2.1)) ∨ (∃ Tc', (tkn ts c).1 ≠ 2 ∧ f_X7_takeNumber Tc r (nI x) (nI y) = some (nI x, Tc') ∧ CWr r la Tc Tc' ∧ FC r la l ts f Tc' 1 (nI (tkn ts c).2.1)) := by
  have tx := hm.tx
  have g7 : getI Tc (some r) 8 7 = some (nI (tkn ts c).2.2.1) := by rw [getI_s hc.1.1, hc.2.2.2.2.2.2.2.1]
  by_cases s2 : (tkn ts c).1 = 2
  · have e2 : nI (tkn ts c).1 = 2 := by rw [s2]; rfl
    by_cases b : x ≤ (tkn ts c).2.2.1 ∧ (tkn ts c).2.2.1 ≤ y
    · obtain ⟨A, B, a1, -, a2, -, a3, -⟩ := adv2 hc hm (by omega)
      refine Or.inl ⟨A, s2, b.1, b.2, ?_, a2, a3⟩
      unfold f_X7_takeNumber
      simp only [g7, hc.gs, Option.bind_some]
      rw [if_pos e2, if_neg (by rw [lt_i, nI_toInt (by omega), nI_toInt (by omega)]; omega), if_pos (nI_le b.2 hy)]
      simp only [hc.1.rv, a1, Option.bind_some]
    · obtain ⟨A, a1, a2, a3⟩ := X_ref hc (x := 2) (by decide)
      refine Or.inr (Or.inl ⟨A, s2, b, ?_, a2, a3⟩)
      unfold f_X7_takeNumber f_X7_takeNumber_30
      simp only [g7, hc.gs, Option.bind_some]
      rw [if_pos e2]
      by_cases b1 : (tkn ts c).2.2.1 < x
      · rw [if_pos (nI_lt b1 hx)]
        simp only [hc.1.rv, a1, Option.bind_some]
      · rw [if_neg (by rw [lt_i, nI_toInt (by omega), nI_toInt (by omega)]; omega), if_neg (nI_ge (by omega) (by omega))]
        simp only [hc.1.rv, a1, Option.bind_some]
  · have e2 : ¬ (nI (tkn ts c).1 = 2) := fun z => s2 ((nI_e27 _ tx.2.1 2 (by omega)).mp z)
    obtain ⟨A, a1, a2, a3⟩ := X_ref hc (x := 1) (by decide)
    refine Or.inr (Or.inr ⟨A, s2, ?_, a2, a3⟩)
    unfold f_X7_takeNumber
    simp only [g7, hc.gs, Option.bind_some]
    rw [if_neg e2]
    simp only [hc.1.rv, a1, Option.bind_some]
/-- a step of both -/
theorem lay2 (hc : PCr r la l ts f Tc c d C) (hm : PMr mb tb n ts Tm c d L) (h1 : C.length < c) (h2 : L.length ≤ c) (t : Nat) (v w : Int32) (hw : cStep (t, v) = [w]) : ∃ Tc' Tm', f_X6_addCode Tc la w = some Tc' ∧ f_X12_lay Tm mb (nI t) v = some Tm' ∧ CWr r la Tc Tc' ∧ RWm mb Tm Tm' ∧ PCr r la l ts f Tc' c d (C ++ [(t, v)].flatMap cStep) ∧ PMr mb tb n ts Tm' c d (L ++ [(t, v)]) := by
  have hn := hm.1.2.2.2.2
  have hn2 := hm.2.1
  obtain ⟨A, a1, a2, a3⟩ := X_code hc (by omega) w
  obtain ⟨B, b1, b2, b3⟩ := M_lay hm (by omega) t v
  have e : [(t, v)].flatMap cStep = [w] := by rw [List.flatMap_cons, List.flatMap_nil, List.append_nil, hw]
  refine ⟨A, B, a1, b1, a2, b2, ?_, b3⟩
  rw [e]
  exact a3
end Ex
