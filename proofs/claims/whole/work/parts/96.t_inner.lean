section Inm
variable {r la l mb n x : Nat} {tb : Nat → Nat} {ts : List Tk} {f : Nat → Nat} {Tc Tm T T' U : St} {c d : Nat} {C C1 : List Int32} {L L1 : List Sps} {fl fp : Int32} {v : LawV} {W : List LnR} {w : LnR}
theorem X_sleep (k : KS r la l ts f T) {u : Nat} (hu : u ≤ 3) (z : Int32) : f_X6_setSleep T la (nI u) z = some (setI T (la + 1) u z) := by
  obtain ⟨a1, a2, a3, a4, a5, a6, a7, a8, a9, a10, a11⟩ := k
  unfold f_X6_setSleep
  have e1 : alen T (some (la + 1)) = some (nI 4) := alen_s (by rw [a9]; omega) a10
  simp only [getR_s a4, a8, e1, X_isWithin, i01, nI_toInt (show u < 2 ^ 31 by omega), nI_toInt (show 4 < 2 ^ 31 by omega), Option.bind_some]
  rw [if_neg (fun z => z (by omega))]
  simp only [stI_s a9 a10 (show u < 4 by omega) (by decide), nrw15, Option.bind_some]
/-- two numbers of the reference -/
theorem M_two2 {B D : St} {y1 : Int32} {y2 : Nat} {u : Int32} {v' : Int32} (hm : PMr mb tb n ts Tm c 0 L) (hx : x < 24) (hy : y2 < 2 ^ 31) (h1 : f_X12_aNumber Tm mb y1 = some (1, B)) (mB : MOK B mb) (h53 : mi B mb 53 = u) (h2 : f_X12_aNumber (setI B (mb + 31) x u) mb (nI y2) = some (v', D)) (mD : MOK D mb) (hv : v' = 0 ∨ v' = 1) : f_X12_two Tm mb (nI x) y1 (nI y2) = if v' = 0 then some (0, D) else some (1, setI D (mb + 32) x (mi D mb 53)) := by
  have q3 : ¬ ((1 : Int32) = 0) := by decide
  have q4 : ¬ (nI y2 = -1) := nI_ne1 (by omega)
  have mB1 : MOK (setI B (mb + 31) x u) mb := mB.sw (SW_I (P := fun _ => True) _ _ trivial)
  unfold f_X12_two
  simp only [hm.rv, h1, Option.bind_some, if_neg q3, mR_freshA mB, mI mB, h53, mS_freshA mB hx, nrw15, if_neg q4, mV mB1, h2]
  rcases hv with rfl | rfl
  · rw [if_pos rfl, if_pos rfl]
  · rw [if_neg q3, if_neg q3]
    simp only [mR_freshB mD, mI mD, mS_freshB mD hx, nrw15, Option.bind_some]
theorem J_in3 (hc : PCr r la l ts f Tc c 0 C) (hv : LC Tc la v) (hm : PMr mb tb n ts Tm (c + 1) 0 L) (h30 : mi Tm (mb + 30) x = nI (tkn ts c).1) (hx : x < 24) (hs : (tkn ts c).1 = 3) : INR r la l f mb tb n ts Tc Tm c x C L v := by
  obtain ⟨A, a1, a2, a3⟩ := X_adv hc hm.2.1
  have i1 : nI (tkn ts c).1 = 3 := by rw [hs]; rfl
  have hin : ∀ o, f_X12_two Tm mb (nI x) (nI 3) (nI 40) = some o → (o.1 = 0 ∨ o.1 = 1) → f_X12_inner Tm mb (nI x) = some o := fun o z1 z2 => by
    unfold f_X12_inner
    simp only [mR_freshSort hm.1.1, mL_freshSort hm.1.1 hx, h30, i1, Option.bind_some]
    rw [if_pos (by decide)]
    simp only [hm.rv, Option.bind_some]
    refine (bnd z1).trans ?_
    obtain ⟨o1, o2⟩ := o
    rcases z2 with z | z
    · have : o1 = 0 := z
      rw [this]; rfl
    · have : o1 = 1 := z
      rw [this]; rfl
  have hcl : ∀ (u u' : Int32) A1 A2 A3, f_X7_takeNumber A r 0 (nI 3) = some (u, A1) → KS r la l ts f A1 → f_X7_takeNumber A1 r 0 (nI 40) = some (u', A2) → KS r la l ts f A2 → f_X6_setSleep A2 la u u' = some A3 → qx_line Tc r = qx_end A3 r := fun u u' A1 A2 A3 z1 z2 z3 z4 z5 => by
    have z1' : f_X7_takeNumber A r 0 3 = some (u, A1) := z1
    have z3' : f_X7_takeNumber A1 r 0 40 = some (u', A2) := z3
    unfold qx_line
    simp only [hc.gs, i1, hc.1.rv, a1, Option.bind_some]
    rw [if_neg (by decide)]
    simp only [a3.1.rv, Option.bind_some]
    unfold f_X7_readNumbers
    rw [if_pos (by decide)]
    simp only [a3.1.rv, z1', z2.gl, z2.rv, z3', z4.rl, z5, Option.bind_some]
  rcases num2 (x := x) a3 hm (y := 3) (by decide) with ⟨A1, B, u, u1, v1, u2, v2, v3, v4, u5, v5, v6, v7⟩ | ⟨A1, B, fl, fp, u1, v1, u2, v2, u3, v4, v5⟩
  · obtain ⟨k1, k2⟩ := v5.row (x := x) (o := 31) (by omega) (by omega) (nI u)
    rcases num2 (x := x) u5 k1 (y := 40) (by decide) with ⟨A2, D, t, p1, r1, p2, r2, r3, r4, p5, r5, r6, r7⟩ | ⟨A2, D, fl, fp, p1, r1, p2, r2, p3, r4, r5⟩
    · obtain ⟨k3, k4⟩ := r5.row (x := x) (o := 32) (by omega) (by omega) (nI t)
      have tw := M_two2 (y2 := 40) (y1 := nI 3) hm hx (by decide) v1 v5.1.1 v6 r1 r5.1.1 (Or.inr rfl)
      rw [if_neg (by decide), r6] at tw
      obtain ⟨w1, w2⟩ := p5.law (a := la + 1) (k := u) (Or.inr rfl) (nI t)
      have e30 : mi (setI D (mb + 32) x (nI t)) (mb + 30) x = nI 3 := by
        rw [mi_setI_i, if_neg (by omega), r3 30 (by omega) (by omega), mi_setI_i, if_neg (by omega), v3 30 (by omega) (by omega), h30, hs]
      have e31 : mi (setI D (mb + 32) x (nI t)) (mb + 31) x = nI u := by
        rw [mi_setI_i, if_neg (by omega), r3 31 (by omega) (by omega), mi_setI_i, if_pos ⟨rfl, rfl⟩]
      obtain ⟨n1, n2⟩ := in_num (s := 3) (a := u) (b := t) k3 e30 (by omega) e31 (fun z => by rw [mi_setI_i, if_pos ⟨rfl, rfl⟩])
      obtain ⟨n3, n4⟩ := w2.nil (s := 3) (a := u) (b := t) (by omega)
      obtain ⟨y1, y2, y3, y4, y5, y6⟩ := ((hv.cw a2).cw u2).cw p2
      refine Or.inl ⟨_, _, c + 1 + 1 + 1, (3, u, t, [], []), hcl _ _ _ _ _ u1 u5.1 p1 p5.1 (X_sleep p5.1 v7 _), hin _ tw (Or.inr rfl), ((a2.1.tr u2.1).tr p2.1).tr w1, ((v2.tr k2).tr r2).tr k4, n3, ?_, ?_, n1, n2, ?_, Or.inl ⟨Or.inl ⟨rfl, v7, r7⟩, rfl⟩, by omega, by omega, by show 0 + c ≤ _; omega⟩
      · refine ⟨fun k hk => ?_, ?_, ?_, ?_, ?_, ?_⟩
        · rw [mi_setI_i]
          show _ = if k = u then nI t else v.1 k
          by_cases e : k = u
          · rw [if_pos ⟨rfl, e⟩, if_pos e]
          · rw [if_neg (fun z => e z.2), if_neg e]; exact y1 k hk
        · rw [mi_setI_i, if_neg (by omega)]; exact y2
        · rw [mi_setI_i, if_neg (by omega)]; exact y3
        · rw [mi_setI_i, if_neg (by omega)]; exact y4
        · rw [mi_setI_i, if_neg (by omega)]; exact y5
        · rw [mi_setI_i, if_neg (by omega)]; exact y6
      · rw [mi_setI_i, if_neg (by omega), p2.2.1 _ (by omega), u2.2.1 _ (by omega), a2.2.1 _ (by omega)]
      · rw [mi_setI_i, if_neg (by omega), r4, mi_setI_i, if_neg (by omega), v4]
    · have mD : MOK D mb := k1.1.1.sw r2.1
      have tw := M_two2 (y2 := 40) (y1 := nI 3) hm hx (by decide) v1 v5.1.1 v6 r1 mD (Or.inl rfl)
      rw [if_pos rfl] at tw
      obtain ⟨w1, w2⟩ := p3.law (a := la + 1) (k := u) (Or.inr rfl) 0
      exact Or.inr ⟨_, D, fl, fp, hcl _ _ _ _ _ u1 u5.1 p1 p3.1 (X_sleep p3.1 v7 _), hin _ tw (Or.inl rfl), ((a2.1.tr u2.1).tr p2.1).tr w1, (v2.tr k2).tr r2, w2, r4, r5⟩
  · obtain ⟨A2, p1, p2, p3⟩ := F_num u3 0 (nI 40)
    obtain ⟨w1, w2⟩ := p3.law (a := la + 1) (k := 0) (Or.inr rfl) 0
    have z0 : f_X6_setSleep A2 la 0 0 = some (setI A2 (la + 1) 0 0) := X_sleep (u := 0) p3.1 (by omega) 0
    refine Or.inr ⟨_, B, fl, fp, hcl _ _ _ _ _ u1 u3.1 p1 p3.1 z0, hin (0, B) ?_ (Or.inl rfl), ((a2.1.tr u2.1).tr p2.1).tr w1, v2, w2, v4, v5⟩
    unfold f_X12_two
    simp only [hm.rv, v1, Option.bind_some, if_true]
theorem J_in7 (hc : PCr r la l ts f Tc c 0 C) (hv : LC Tc la v) (hm : PMr mb tb n ts Tm (c + 1) 0 L) (h30 : mi Tm (mb + 30) x = nI (tkn ts c).1) (hx : x < 24) (hs : (tkn ts c).1 = 7) : INR r la l f mb tb n ts Tc Tm c x C L v := by
  obtain ⟨A, a1, a2, a3⟩ := X_adv hc hm.2.1
  have i1 : nI (tkn ts c).1 = 7 := by rw [hs]; rfl
  have hin : ∀ o, f_X12_two Tm mb (nI x) (nI 200) (nI 40) = some o → (o.1 = 0 ∨ o.1 = 1) → f_X12_inner Tm mb (nI x) = some o := fun o z1 z2 => by
    unfold f_X12_inner
    simp only [mR_freshSort hm.1.1, mL_freshSort hm.1.1 hx, h30, i1, Option.bind_some]
    rw [if_neg (by decide), if_neg (by decide), if_neg (by decide), if_neg (by decide), if_pos (by decide)]
    simp only [hm.rv, Option.bind_some]
    refine (bnd z1).trans ?_
    obtain ⟨o1, o2⟩ := o
    rcases z2 with z | z
    · have : o1 = 0 := z
      rw [this]; rfl
    · have : o1 = 1 := z
      rw [this]; rfl
  have hcl : ∀ (u u' : Int32) A1 A2, f_X7_takeNumber A r 0 (nI 200) = some (u, A1) → KS r la l ts f A1 → KS r la l ts f (setI A1 la 5 u) → f_X7_takeNumber (setI A1 la 5 u) r 0 (nI 40) = some (u', A2) → KS r la l ts f A2 → qx_line Tc r = qx_end (setI A2 la 6 u') r := fun u u' A1 A2 z1 z2 z2' z3 z4 => by
    have z1' : f_X7_takeNumber A r 0 200 = some (u, A1) := z1
    have z3' : f_X7_takeNumber (setI A1 la 5 u) r 0 40 = some (u', A2) := z3
    unfold qx_line
    simp only [hc.gs, i1, hc.1.rv, a1, Option.bind_some]
    rw [if_neg (by decide)]
    simp only [a3.1.rv, Option.bind_some]
    unfold f_X7_readNumbers
    rw [if_neg (by decide), if_neg (by decide), if_neg (by decide), if_neg (by decide)]
    simp only [a3.1.gl, a3.1.rv, z1', Option.bind_some, putI_s z2.2.2.2.1, z2'.gl, z2'.rv, z3', putI_s z4.2.2.2.1]
  rcases num2 (x := x) a3 hm (y := 200) (by decide) with ⟨A1, B, u, u1, v1, u2, v2, v3, v4, u5, v5, v6, v7⟩ | ⟨A1, B, fl, fp, u1, v1, u2, v2, u3, v4, v5⟩
  · obtain ⟨k1, k2⟩ := v5.row (x := x) (o := 31) (by omega) (by omega) (nI u)
    obtain ⟨g1, g2⟩ := u5.law (a := la) (k := 5) (Or.inl ⟨rfl, by omega⟩) (nI u)
    rcases num2 (x := x) g2 k1 (y := 40) (by decide) with ⟨A2, D, t, p1, r1, p2, r2, r3, r4, p5, r5, r6, r7⟩ | ⟨A2, D, fl, fp, p1, r1, p2, r2, p3, r4, r5⟩
    · obtain ⟨k3, k4⟩ := r5.row (x := x) (o := 32) (by omega) (by omega) (nI t)
      have tw := M_two2 (y2 := 40) (y1 := nI 200) hm hx (by decide) v1 v5.1.1 v6 r1 r5.1.1 (Or.inr rfl)
      rw [if_neg (by decide), r6] at tw
      obtain ⟨w1, w2⟩ := p5.law (a := la) (k := 6) (Or.inl ⟨rfl, by omega⟩) (nI t)
      have e30 : mi (setI D (mb + 32) x (nI t)) (mb + 30) x = nI 7 := by
        rw [mi_setI_i, if_neg (by omega), r3 30 (by omega) (by omega), mi_setI_i, if_neg (by omega), v3 30 (by omega) (by omega), h30, hs]
      have e31 : mi (setI D (mb + 32) x (nI t)) (mb + 31) x = nI u := by
        rw [mi_setI_i, if_neg (by omega), r3 31 (by omega) (by omega), mi_setI_i, if_pos ⟨rfl, rfl⟩]
      obtain ⟨n1, n2⟩ := in_num (s := 7) (a := u) (b := t) k3 e30 (by omega) e31 (fun z => by rw [mi_setI_i, if_pos ⟨rfl, rfl⟩])
      obtain ⟨n3, n4⟩ := w2.nil (s := 7) (a := u) (b := t) (by omega)
      obtain ⟨y1, y2, y3, y4, y5, y6⟩ := (hv.cw a2).cw u2
      have f5 : ∀ k, k ≠ 6 → k ≠ 8 → mi (setI A2 la 6 (nI t)) la k = mi (setI A1 la 5 (nI u)) la k := fun k h1 h2 => by rw [mi_setI_i, if_neg (by omega), p2.2.1 _ h2]
      refine Or.inl ⟨_, _, c + 1 + 1 + 1, (7, u, t, [], []), hcl _ _ _ _ u1 u5.1 g2.1 p1 p5.1, hin _ tw (Or.inr rfl), (((a2.1.tr u2.1).tr g1).tr p2.1).tr w1, ((v2.tr k2).tr r2).tr k4, n3, ?_, ?_, n1, n2, ?_, Or.inl ⟨Or.inr (Or.inr (Or.inr (Or.inr ⟨rfl, v7, r7⟩))), rfl⟩, by omega, by omega, by show 0 + c ≤ _; omega⟩
      · refine ⟨fun k hk => ?_, ?_, ?_, ?_, ?_, ?_⟩
        · rw [mi_setI_i, if_neg (by omega), p2.2.2, mi_setI_i, if_neg (by omega)]; exact y1 k hk
        · rw [f5 _ (by omega) (by omega), mi_setI_i, if_neg (by omega)]; exact y2
        · rw [f5 _ (by omega) (by omega), mi_setI_i, if_neg (by omega)]; exact y3
        · rw [f5 _ (by omega) (by omega), mi_setI_i, if_neg (by omega)]; exact y4
        · rw [f5 _ (by omega) (by omega), mi_setI_i, if_pos ⟨rfl, rfl⟩]; rfl
        · rw [mi_setI_i, if_pos ⟨rfl, rfl⟩]; rfl
      · rw [f5 _ (by omega) (by omega), mi_setI_i, if_neg (by omega), u2.2.1 _ (by omega), a2.2.1 _ (by omega)]
      · rw [mi_setI_i, if_neg (by omega), r4, mi_setI_i, if_neg (by omega), v4]
    · have mD : MOK D mb := k1.1.1.sw r2.1
      have tw := M_two2 (y2 := 40) (y1 := nI 200) hm hx (by decide) v1 v5.1.1 v6 r1 mD (Or.inl rfl)
      rw [if_pos rfl] at tw
      obtain ⟨w1, w2⟩ := p3.law (a := la) (k := 6) (Or.inl rfl) 0
      exact Or.inr ⟨_, D, fl, fp, hcl _ _ _ _ u1 u5.1 g2.1 p1 p3.1, hin _ tw (Or.inl rfl), (((a2.1.tr u2.1).tr g1).tr p2.1).tr w1, (v2.tr k2).tr r2, w2, r4, r5⟩
  · obtain ⟨g1, g2⟩ := u3.law (a := la) (k := 5) (Or.inl rfl) 0
    obtain ⟨A2, p1, p2, p3⟩ := F_num g2 0 (nI 40)
    obtain ⟨w1, w2⟩ := p3.law (a := la) (k := 6) (Or.inl rfl) 0
    refine Or.inr ⟨_, B, fl, fp, hcl _ _ _ _ u1 u3.1 g2.1 p1 p3.1, hin (0, B) ?_ (Or.inl rfl), (((a2.1.tr u2.1).tr g1).tr p2.1).tr w1, v2, w2, v4, v5⟩
    unfold f_X12_two
    simp only [hm.rv, v1, Option.bind_some, if_true]
end Inm
