def INR (r la l : Nat) (f : Nat → Nat) (mb : Nat) (tb : Nat → Nat) (n : Nat) (ts : List Tk) (Tc Tm : St) (c x : Nat) (C : List Int32) (L : List Sps) (v : LawV) : Prop :=
  (∃ Tc' Tm' c' w, qx_line Tc r = qx_end Tc' r ∧ f_X12_inner Tm mb (nI x) = some (1, Tm') ∧ SW (Pc r la) Tc Tc' ∧ RWl mb x Tm Tm' ∧ PCr r la l ts f Tc' c' 0 (C ++ cd1 w) ∧ LC Tc' la (stepL v w) ∧ mi Tc' la 0 = mi Tc la 0 ∧ PMr mb tb n ts Tm' c' 0 (L ++ st1 w) ∧ LR mb Tm' x L w ∧ mi Tm' mb 42 = mi Tm mb 42 ∧ okW w ∧ (cd1 w).length + c ≤ c' ∧ c < c' ∧ (st1 w).length + c ≤ c') ∨ (∃ Tc' Tm' fl fp, qx_line Tc r = qx_end Tc' r ∧ f_X12_inner Tm mb (nI x) = some (0, Tm') ∧ SW (Pc r la) Tc Tc' ∧ RWl mb x Tm Tm' ∧ FC r la l ts f Tc' fl fp ∧ mi Tm' mb 49 = fl ∧ mi Tm' mb 50 = fp)
section Inn
variable {r la l mb n x : Nat} {tb : Nat → Nat} {ts : List Tk} {f : Nat → Nat} {Tc Tm T T' U : St} {c d : Nat} {C C1 : List Int32} {L L1 : List Sps} {fl fp : Int32} {v : LawV} {W : List LnR} {w : LnR}
theorem in_num (hm : PMr mb tb n ts Tm c 0 L) {s a b : Nat} (h30 : mi Tm (mb + 30) x = nI s) (h8 : s ≠ 8) (h31 : mi Tm (mb + 31) x = nI a) (h32 : s = 3 ∨ s = 7 → mi Tm (mb + 32) x = nI b) : PMr mb tb n ts Tm c 0 (L ++ st1 (s, a, b, [], [])) ∧ LR mb Tm x L (s, a, b, [], []) := by
  refine ⟨?_, h30, fun _ => h31, h32, fun z => absurd z h8⟩
  have : st1 (s, a, b, [], []) = [] := rfl
  rw [this, List.append_nil]
  exact hm
theorem PCr.nil (hc : PCr r la l ts f Tc c 0 C) {s a b : Nat} (h8 : s ≠ 8) : PCr r la l ts f Tc c 0 (C ++ cd1 (s, a, b, [], [])) ∧ (cd1 (s, a, b, [], [])).length = 0 := by
  have : cd1 (s, a, b, [], []) = [] := if_neg h8
  rw [this, List.append_nil]
  exact ⟨hc, rfl⟩
theorem J_in5 (hc : PCr r la l ts f Tc c 0 C) (hv : LC Tc la v) (hm : PMr mb tb n ts Tm (c + 1) 0 L) (h30 : mi Tm (mb + 30) x = nI (tkn ts c).1) (hx : x < 24) (hs : (tkn ts c).1 = 5) : INR r la l f mb tb n ts Tc Tm c x C L v := by
  obtain ⟨A, a1, a2, a3⟩ := X_adv hc hm.2.1
  have i1 : nI (tkn ts c).1 = 5 := by rw [hs]; rfl
  have k7 := a3.1.2.2.2.1
  have hin : ∀ o, f_X12_two Tm mb (nI x) (nI 999) (-1) = some o → (o.1 = 0 ∨ o.1 = 1) → f_X12_inner Tm mb (nI x) = some o := fun o z1 z2 => by
    unfold f_X12_inner
    simp only [mR_freshSort hm.1.1, mL_freshSort hm.1.1 hx, h30, i1, Option.bind_some]
    rw [if_neg (by decide), if_neg (by decide), if_pos (by decide)]
    simp only [hm.rv, Option.bind_some]
    refine (bnd z1).trans ?_
    obtain ⟨o1, o2⟩ := o
    rcases z2 with z | z
    · have : o1 = 0 := z
      rw [this]; rfl
    · have : o1 = 1 := z
      rw [this]; rfl
  have hcl : ∀ (u : Int32) A1, f_X7_takeNumber A r 0 (nI 999) = some (u, A1) → kd A1 la = 7 → qx_line Tc r = qx_end (setI A1 la 3 u) r := fun u A1 z1 z2 => by
    have z1' : f_X7_takeNumber A r 0 999 = some (u, A1) := z1
    unfold qx_line
    simp only [hc.gs, i1, hc.1.rv, a1, Option.bind_some]
    rw [if_neg (by decide)]
    simp only [a3.1.rv, Option.bind_some]
    unfold f_X7_readNumbers
    rw [if_neg (by decide), if_neg (by decide), if_pos (by decide)]
    simp only [a3.1.gl, a3.1.rv, z1', Option.bind_some, putI_s z2]
  rcases two1 a3 hm hx (y := 999) (by decide) with ⟨A1, B, u, u1, v1, u2, v2, v3, v4, u5, v5, v6, v7⟩ | ⟨A1, B, fl, fp, u1, v1, u2, v2, u3, v4, v5⟩
  · obtain ⟨w1, w2⟩ := u5.law (a := la) (k := 3) (Or.inl ⟨rfl, by omega⟩) (nI u)
    obtain ⟨n1, n2⟩ := in_num (s := 5) (a := u) (b := 0) v5 (by rw [v3, h30, hs]) (by omega) v6 (fun z => by omega)
    obtain ⟨n3, n4⟩ := w2.nil (s := 5) (a := u) (b := 0) (by omega)
    obtain ⟨y1, y2, y3, y4, y5, y6⟩ := (hv.cw a2).cw u2
    refine Or.inl ⟨_, B, c + 1 + 1, (5, u, 0, [], []), hcl _ _ u1 u5.1.2.2.2.1, hin _ v1 (Or.inr rfl), (a2.1.tr u2.1).tr w1, v2, n3, ?_, ?_, n1, n2, v4, Or.inl ⟨Or.inr (Or.inr (Or.inl ⟨rfl, v7⟩)), rfl⟩, by omega, by omega, by show 0 + c ≤ _; omega⟩
    · refine ⟨fun k hk => ?_, ?_, ?_, ?_, ?_, ?_⟩
      · rw [mi_setI_i, if_neg (by omega)]; exact y1 k hk
      · rw [mi_setI_i, if_neg (by omega)]; exact y2
      · rw [mi_setI_i, if_pos ⟨rfl, rfl⟩]; rfl
      · rw [mi_setI_i, if_neg (by omega)]; exact y4
      · rw [mi_setI_i, if_neg (by omega)]; exact y5
      · rw [mi_setI_i, if_neg (by omega)]; exact y6
    · rw [mi_setI_i, if_neg (by omega), u2.2.1 _ (by omega), a2.2.1 _ (by omega)]
  · obtain ⟨w1, w2⟩ := u3.law (a := la) (k := 3) (Or.inl rfl) 0
    exact Or.inr ⟨_, B, fl, fp, hcl _ _ u1 u3.1.2.2.2.1, hin _ v1 (Or.inl rfl), (a2.1.tr u2.1).tr w1, v2, w2, v4, v5⟩
theorem J_in6 (hc : PCr r la l ts f Tc c 0 C) (hv : LC Tc la v) (hm : PMr mb tb n ts Tm (c + 1) 0 L) (h30 : mi Tm (mb + 30) x = nI (tkn ts c).1) (hx : x < 24) (hs : (tkn ts c).1 = 6) : INR r la l f mb tb n ts Tc Tm c x C L v := by
  obtain ⟨A, a1, a2, a3⟩ := X_adv hc hm.2.1
  have i1 : nI (tkn ts c).1 = 6 := by rw [hs]; rfl
  have hin : ∀ o, f_X12_two Tm mb (nI x) (nI 100) (-1) = some o → (o.1 = 0 ∨ o.1 = 1) → f_X12_inner Tm mb (nI x) = some o := fun o z1 z2 => by
    unfold f_X12_inner
    simp only [mR_freshSort hm.1.1, mL_freshSort hm.1.1 hx, h30, i1, Option.bind_some]
    rw [if_neg (by decide), if_neg (by decide), if_neg (by decide), if_pos (by decide)]
    simp only [hm.rv, Option.bind_some]
    refine (bnd z1).trans ?_
    obtain ⟨o1, o2⟩ := o
    rcases z2 with z | z
    · have : o1 = 0 := z
      rw [this]; rfl
    · have : o1 = 1 := z
      rw [this]; rfl
  have hcl : ∀ (u : Int32) A1, f_X7_takeNumber A r 0 (nI 100) = some (u, A1) → kd A1 la = 7 → qx_line Tc r = qx_end (setI A1 la 4 u) r := fun u A1 z1 z2 => by
    have z1' : f_X7_takeNumber A r 0 100 = some (u, A1) := z1
    unfold qx_line
    simp only [hc.gs, i1, hc.1.rv, a1, Option.bind_some]
    rw [if_neg (by decide)]
    simp only [a3.1.rv, Option.bind_some]
    unfold f_X7_readNumbers
    rw [if_neg (by decide), if_neg (by decide), if_neg (by decide), if_pos (by decide)]
    simp only [a3.1.gl, a3.1.rv, z1', Option.bind_some, putI_s z2]
  rcases two1 a3 hm hx (y := 100) (by decide) with ⟨A1, B, u, u1, v1, u2, v2, v3, v4, u5, v5, v6, v7⟩ | ⟨A1, B, fl, fp, u1, v1, u2, v2, u3, v4, v5⟩
  · obtain ⟨w1, w2⟩ := u5.law (a := la) (k := 4) (Or.inl ⟨rfl, by omega⟩) (nI u)
    obtain ⟨n1, n2⟩ := in_num (s := 6) (a := u) (b := 0) v5 (by rw [v3, h30, hs]) (by omega) v6 (fun z => by omega)
    obtain ⟨n3, n4⟩ := w2.nil (s := 6) (a := u) (b := 0) (by omega)
    obtain ⟨y1, y2, y3, y4, y5, y6⟩ := (hv.cw a2).cw u2
    refine Or.inl ⟨_, B, c + 1 + 1, (6, u, 0, [], []), hcl _ _ u1 u5.1.2.2.2.1, hin _ v1 (Or.inr rfl), (a2.1.tr u2.1).tr w1, v2, n3, ?_, ?_, n1, n2, v4, Or.inl ⟨Or.inr (Or.inr (Or.inr (Or.inl ⟨rfl, v7⟩))), rfl⟩, by omega, by omega, by show 0 + c ≤ _; omega⟩
    · refine ⟨fun k hk => ?_, ?_, ?_, ?_, ?_, ?_⟩
      · rw [mi_setI_i, if_neg (by omega)]; exact y1 k hk
      · rw [mi_setI_i, if_neg (by omega)]; exact y2
      · rw [mi_setI_i, if_neg (by omega)]; exact y3
      · rw [mi_setI_i, if_pos ⟨rfl, rfl⟩]; rfl
      · rw [mi_setI_i, if_neg (by omega)]; exact y5
      · rw [mi_setI_i, if_neg (by omega)]; exact y6
    · rw [mi_setI_i, if_neg (by omega), u2.2.1 _ (by omega), a2.2.1 _ (by omega)]
  · obtain ⟨w1, w2⟩ := u3.law (a := la) (k := 4) (Or.inl rfl) 0
    exact Or.inr ⟨_, B, fl, fp, hcl _ _ u1 u3.1.2.2.2.1, hin _ v1 (Or.inl rfl), (a2.1.tr u2.1).tr w1, v2, w2, v4, v5⟩
theorem J_in4 (hc : PCr r la l ts f Tc c 0 C) (hv : LC Tc la v) (hm : PMr mb tb n ts Tm (c + 1) 0 L) (h30 : mi Tm (mb + 30) x = nI (tkn ts c).1) (hx : x < 24) (hs : (tkn ts c).1 = 4) : INR r la l f mb tb n ts Tc Tm c x C L v := by
  obtain ⟨A, a1, a2, a3⟩ := X_adv hc hm.2.1
  have i1 : nI (tkn ts c).1 = 4 := by rw [hs]; rfl
  have g2 : getI A (some la) 7 2 = some v.2.1 := by rw [getI_s a3.1.2.2.2.1, (hv.cw a2).2.1]
  have hin : ∀ o, f_X12_two Tm mb (nI x) (nI 5) (-1) = some o → (o.1 = 0 ∨ o.1 = 1) → f_X12_inner Tm mb (nI x) = some o := fun o z1 z2 => by
    unfold f_X12_inner
    simp only [mR_freshSort hm.1.1, mL_freshSort hm.1.1 hx, h30, i1, Option.bind_some]
    rw [if_neg (by decide), if_pos (by decide)]
    simp only [hm.rv, Option.bind_some]
    refine (bnd z1).trans ?_
    obtain ⟨o1, o2⟩ := o
    rcases z2 with z | z
    · have : o1 = 0 := z
      rw [this]; rfl
    · have : o1 = 1 := z
      rw [this]; rfl
  have hcl : ∀ (u : Int32) A1, f_X7_takeNumber A r 0 (nI 5) = some (u, A1) → kd A1 la = 7 → qx_line Tc r = qx_end (setI A1 la 2 (v.2.1 ||| (1 <<< (u &&& 31)))) r := fun u A1 z1 z2 => by
    have z1' : f_X7_takeNumber A r 0 5 = some (u, A1) := z1
    unfold qx_line
    simp only [hc.gs, i1, hc.1.rv, a1, Option.bind_some]
    rw [if_neg (by decide)]
    simp only [a3.1.rv, Option.bind_some]
    unfold f_X7_readNumbers
    rw [if_neg (by decide), if_pos (by decide)]
    simp only [a3.1.gl, a3.1.rv, g2, z1', Option.bind_some, putI_s z2]
  rcases two1 a3 hm hx (y := 5) (by decide) with ⟨A1, B, u, u1, v1, u2, v2, v3, v4, u5, v5, v6, v7⟩ | ⟨A1, B, fl, fp, u1, v1, u2, v2, u3, v4, v5⟩
  · obtain ⟨w1, w2⟩ := u5.law (a := la) (k := 2) (Or.inl ⟨rfl, by omega⟩) (v.2.1 ||| (1 <<< (nI u &&& 31)))
    obtain ⟨n1, n2⟩ := in_num (s := 4) (a := u) (b := 0) v5 (by rw [v3, h30, hs]) (by omega) v6 (fun z => by omega)
    obtain ⟨n3, n4⟩ := w2.nil (s := 4) (a := u) (b := 0) (by omega)
    obtain ⟨y1, y2, y3, y4, y5, y6⟩ := (hv.cw a2).cw u2
    refine Or.inl ⟨_, B, c + 1 + 1, (4, u, 0, [], []), hcl _ _ u1 u5.1.2.2.2.1, hin _ v1 (Or.inr rfl), (a2.1.tr u2.1).tr w1, v2, n3, ?_, ?_, n1, n2, v4, Or.inl ⟨Or.inr (Or.inl ⟨rfl, v7⟩), rfl⟩, by omega, by omega, by show 0 + c ≤ _; omega⟩
    · refine ⟨fun k hk => ?_, ?_, ?_, ?_, ?_, ?_⟩
      · rw [mi_setI_i, if_neg (by omega)]; exact y1 k hk
      · rw [mi_setI_i, if_pos ⟨rfl, rfl⟩]; rfl
      · rw [mi_setI_i, if_neg (by omega)]; exact y3
      · rw [mi_setI_i, if_neg (by omega)]; exact y4
      · rw [mi_setI_i, if_neg (by omega)]; exact y5
      · rw [mi_setI_i, if_neg (by omega)]; exact y6
    · rw [mi_setI_i, if_neg (by omega), u2.2.1 _ (by omega), a2.2.1 _ (by omega)]
  · obtain ⟨w1, w2⟩ := u3.law (a := la) (k := 2) (Or.inl rfl) (v.2.1 ||| (1 <<< ((0 : Int32) &&& 31)))
    exact Or.inr ⟨_, B, fl, fp, hcl _ _ u1 u3.1.2.2.2.1, hin _ v1 (Or.inl rfl), (a2.1.tr u2.1).tr w1, v2, w2, v4, v5⟩
end Inn
