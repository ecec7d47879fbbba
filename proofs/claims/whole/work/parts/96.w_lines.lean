/-- between two lines -/
def BB (r la l : Nat) (f : Nat → Nat) (mb : Nat) (tb : Nat → Nat) (n : Nat) (ts : List Tk) (Tc Tm : St) (c : Nat) (W : List LnR) : Prop := PCr r la l ts f Tc c 0 (cdW W) ∧ LC Tc la (W.foldl stepL lw0) ∧ mi Tc la 0 = nI W.length ∧ (∃ d, PMr mb tb n ts Tm c d (stW W)) ∧ FW mb Tm W ∧ mi Tm mb 42 = nI W.length ∧ (∀ w ∈ W, okW w) ∧ W.length ≤ 24 ∧ (cdW W).length ≤ c ∧ (stW W).length ≤ c
section Lns
variable {r la l mb n x : Nat} {tb : Nat → Nat} {ts : List Tk} {f : Nat → Nat} {Tc Tm T T' U : St} {c d : Nat} {C C1 : List Int32} {L L1 : List Sps} {fl fp : Int32} {v : LawV} {W : List LnR} {w : LnR}
theorem bad3 {d' : Nat} (hc : PCr r la l ts f Tc c d C) (hm : PMr mb tb n ts Tm c d' L) {x : Int32} (hx : x ≠ 0) : ∃ Tc' Tm', f_X7_refuse Tc r x = some Tc' ∧ f_X12_bad Tm mb x = some (0, Tm') ∧ CWr r la Tc Tc' ∧ RWm mb Tm Tm' ∧ FC r la l ts f Tc' x (nI (tkn ts c).2.1) ∧ mi Tm' mb 49 = x ∧ mi Tm' mb 50 = nI (tkn ts c).2.1 := by
  obtain ⟨A, a1, a2, a3⟩ := X_ref hc hx
  obtain ⟨B, b1, b2, b3, b4⟩ := M_bad hm x
  exact ⟨A, B, a1, b1, a2, b2, a3, b3, b4⟩
theorem F_lines6 (fu : Nat) (x : Int32) (h : FC r la l ts f T fl fp) : f_X7_readLines_6 (fu + 1) T r x = some T := by
  unfold f_X7_readLines_6
  have g1 : getI T (some r) 8 1 = some fl := by rw [getI_s h.1.1, h.2.2.1]
  simp only [h.gs, g1, Option.bind_some]
  rw [if_neg (show ¬ ((1 : Int32) = 0) by decide), if_neg h.2.1]
  split <;> rfl
theorem r40_end (fu : Nat) (T : St) (x : Int32) : f_X12_reads_40 (fu + 1) T mb x 0 = some (mb, x, 0, T) := by
  unfold f_X12_reads_40
  rw [if_pos rfl]
theorem J_lines (x1 : Int32) : ∀ (N fu : Nat) (Tc Tm : St) (c : Nat) (W : List LnR), W.length + N = 24 → N + 2 < fu → BB r la l f mb tb n ts Tc Tm c W → (∃ Tc' Tm' c' W', f_X7_readLines_6 fu Tc r (nI W.length) = some Tc' ∧ f_X12_reads_40 fu Tm mb x1 1 = some (mb, x1, 1, Tm') ∧ SW (Pc r la) Tc Tc' ∧ RWo mb Tm Tm' ∧ BB r la l f mb tb n ts Tc' Tm' c' W') ∨ (∃ Tc' Tm' fl fp, f_X7_readLines_6 fu Tc r (nI W.length) = some Tc' ∧ f_X12_reads_40 fu Tm mb x1 1 = some (mb, x1, 0, Tm') ∧ SW (Pc r la) Tc Tc' ∧ RWo mb Tm Tm' ∧ FC r la l ts f Tc' fl fp ∧ mi Tm' mb 49 = fl ∧ mi Tm' mb 50 = fp) := by
  intro N
  induction N with
  | zero =>
    intro fu Tc Tm c W e1 e2 hb
    have hb0 := hb
    obtain ⟨hc, hv, h0, ⟨d, hm⟩, hF, h42, hW, h24, e4, e5⟩ := hb
    obtain ⟨fu, rfl⟩ : ∃ k, fu = k + 1 + 1 := ⟨fu - 2, by omega⟩
    have q3 : ¬ ((1 : Int32) = 0) := by decide
    have tx := hm.tx
    have eW : W.length = 24 := by omega
    have i24 : ¬ ((24 : Int32) < nI W.length) := by rw [eW]; decide
    have g1 : getI Tc (some r) 8 1 = some 0 := by rw [getI_s hc.1.1, hc.2.2.1]
    by_cases s0 : (tkn ts c).1 = 0
    · have i1 : nI (tkn ts c).1 = 0 := by rw [s0]; rfl
      have i2 : nI (mc (tkn ts c).1) = 0 := by rw [s0]; rfl
      refine Or.inl ⟨Tc, Tm, c, W, ?_, ?_, SW.rf _ _, RWo.rf _, hb0⟩
      · unfold f_X7_readLines_6
        simp only [if_neg i24, hc.gs, i1, eq_self, if_true, Option.bind_some]
      · unfold f_X12_reads_40
        simp only [if_neg q3, hm.g46, i2, eq_self, if_true, Option.bind_some]
    · have i1 : ¬ nI (tkn ts c).1 = 0 := (hm.ct (s := 0) (by omega) s0).1
      have i2 : ¬ nI (mc (tkn ts c).1) = 0 := (hm.ct (s := 0) (by omega) s0).2
      by_cases s38 : 3 ≤ (tkn ts c).1 ∧ (tkn ts c).1 ≤ 8
      · obtain ⟨A2, B3, x1', y1, x2, y2, x3, y3, y4⟩ := bad3 hc hm (x := 3) (by decide)
        refine Or.inr ⟨A2, B3, 3, _, ?_, ?_, x2.1, y2.wl (x := 0) |>.o, x3, y3, y4⟩
        · rw [f_X7_readLines_6]
          have z0 : getI Tc (some la) 7 0 = some 24 := by rw [getI_s hc.1.2.2.2.1, h0, eW]; rfl
          simp only [if_neg i24, hc.gs, if_neg i1, g1, eq_self, if_true, Option.bind_some, hc.1.gl, z0]
          rw [if_neg (by rw [lt_i, nI_toInt (by omega)]; simp only [Int32.reduceToInt]; omega), if_pos (by rw [le_i, nI_toInt (by omega)]; simp only [Int32.reduceToInt]; omega), if_neg (by decide)]
          simp only [hc.1.rv, x1', Option.bind_some]
          exact F_lines6 fu _ x3
        · have mcs : mc (tkn ts c).1 = (tkn ts c).1 := by unfold mc; rw [if_pos (by omega)]
          have z0 : getI Tm (some mb) 13 42 = some 24 := by rw [mI hm.1.1, h42, eW]; rfl
          have al : f_X12_aLine Tm mb = some (0, B3) := by
            unfold f_X12_aLine
            simp only [hm.g46, mcs, M_isIn, Option.bind_some, nI_toInt (show (tkn ts c).1 < 2 ^ 31 by omega), Int32.reduceToInt, i01]
            rw [if_neg (fun z => z (by omega))]
            simp only [z0, Option.bind_some, eq_self, if_true, hm.rv, y1, zchk0]
          rw [f_X12_reads_40]
          simp only [if_neg q3, hm.g46, if_neg i2, Option.bind_some, hm.rv, al]
          exact r40_end fu B3 x1
      · obtain ⟨A2, B3, x1', y1, x2, y2, x3, y3, y4⟩ := bad3 hc hm (x := 1) (by decide)
        refine Or.inr ⟨A2, B3, 1, _, ?_, ?_, x2.1, y2.wl (x := 0) |>.o, x3, y3, y4⟩
        · rw [f_X7_readLines_6]
          unfold f_X7_readLines_42
          simp only [if_neg i24, hc.gs, if_neg i1, g1, eq_self, if_true, Option.bind_some, hc.1.rv, x1']
          by_cases lo : (tkn ts c).1 < 3
          · rw [if_pos (by rw [lt_i, nI_toInt (by omega)]; simp only [Int32.reduceToInt]; omega)]
            exact F_lines6 fu _ x3
          · rw [if_neg (by rw [lt_i, nI_toInt (by omega)]; simp only [Int32.reduceToInt]; omega), if_neg (by rw [le_i, nI_toInt (by omega)]; simp only [Int32.reduceToInt]; omega)]
            exact F_lines6 fu _ x3
        · have al : f_X12_aLine Tm mb = some (0, B3) := by
            have z := mc_38 _ tx.2.1
            unfold f_X12_aLine f_X12_isIn
            simp only [hm.g46, Option.bind_some]
            by_cases lo : nI (mc (tkn ts c).1) < 3
            · simp only [if_pos lo, Option.bind_some, if_true, hm.rv, y1, zchk0]
            · have hi : 8 < nI (mc (tkn ts c).1) := Decidable.byContradiction (fun hi => s38 (z.mp ⟨lo, hi⟩))
              simp only [if_neg lo, if_pos hi, Option.bind_some, if_true, hm.rv, y1, zchk0]
          rw [f_X12_reads_40]
          simp only [if_neg q3, hm.g46, if_neg i2, Option.bind_some, hm.rv, al]
          exact r40_end fu B3 x1
  | succ N ih =>
    intro fu Tc Tm c W e1 e2 hb
    have hb0 := hb
    obtain ⟨hc, hv, h0, ⟨d, hm⟩, hF, h42, hW, h24, e4, e5⟩ := hb
    obtain ⟨fu, rfl⟩ : ∃ k, fu = k + 1 + 1 := ⟨fu - 2, by omega⟩
    have q3 : ¬ ((1 : Int32) = 0) := by decide
    have tx := hm.tx
    have i24 : ¬ ((24 : Int32) < nI W.length) := by rw [lt_i, nI_toInt (by omega)]; simp only [Int32.reduceToInt]; omega
    have g1 : getI Tc (some r) 8 1 = some 0 := by rw [getI_s hc.1.1, hc.2.2.1]
    by_cases s0 : (tkn ts c).1 = 0
    · have i1 : nI (tkn ts c).1 = 0 := by rw [s0]; rfl
      have i2 : nI (mc (tkn ts c).1) = 0 := by rw [s0]; rfl
      refine Or.inl ⟨Tc, Tm, c, W, ?_, ?_, SW.rf _ _, RWo.rf _, hb0⟩
      · unfold f_X7_readLines_6
        simp only [if_neg i24, hc.gs, i1, eq_self, if_true, Option.bind_some]
      · unfold f_X12_reads_40
        simp only [if_neg q3, hm.g46, i2, eq_self, if_true, Option.bind_some]
    · have i1 : ¬ nI (tkn ts c).1 = 0 := (hm.ct (s := 0) (by omega) s0).1
      have i2 : ¬ nI (mc (tkn ts c).1) = 0 := (hm.ct (s := 0) (by omega) s0).2
      by_cases s38 : 3 ≤ (tkn ts c).1 ∧ (tkn ts c).1 ≤ 8
      · have z0 : getI Tc (some la) 7 0 = some (nI W.length) := by rw [getI_s hc.1.2.2.2.1, h0]
        have ecl : ∀ A1 : St, qx_line Tc r = some A1 → f_X7_readLines_6 (fu + 1 + 1) Tc r (nI W.length) = f_X7_readLines_6 (fu + 1) A1 r (nI (W.length + 1)) := fun A1 t1 => by
          rw [f_X7_readLines_6]
          simp only [if_neg i24, hc.gs, if_neg i1, g1, eq_self, if_true, Option.bind_some, hc.1.gl, z0]
          rw [if_neg (by rw [lt_i, nI_toInt (by omega)]; simp only [Int32.reduceToInt]; omega), if_pos (by rw [le_i, nI_toInt (by omega)]; simp only [Int32.reduceToInt]; omega), if_pos (by rw [lt_i, nI_toInt (by omega)]; simp only [Int32.reduceToInt]; omega)]
          unfold qx_line at t1
          simp only [hc.gs, hc.1.rv, Option.bind_some] at t1
          obtain ⟨A2, p1, t1⟩ := ob t1
          simp only [hc.1.rv, p1, Option.bind_some]
          by_cases h8 : nI (tkn ts c).1 = 8
          · rw [if_pos h8] at t1
            rw [if_pos h8]
            obtain ⟨b, p2, t1⟩ := ob t1
            obtain ⟨A3, p3, t1⟩ := ob t1
            obtain ⟨b', p4, t1⟩ := ob t1
            obtain ⟨A4, p5, t1⟩ := ob t1
            simp only [p2, p3, p4, p5, Option.bind_some]
            rw [qx_96 _ _ _ _ t1, nI_1]
          · rw [if_neg h8] at t1
            rw [if_neg h8]
            obtain ⟨b, p2, t1⟩ := ob t1
            obtain ⟨A3, p3, t1⟩ := ob t1
            simp only [p2, p3, Option.bind_some]
            rw [qx_96 _ _ _ _ t1, nI_1]
        have emr : ∀ (v : Int32) (B1 : St), f_X12_aLine Tm mb = some (v, B1) → f_X12_reads_40 (fu + 1 + 1) Tm mb x1 1 = f_X12_reads_40 (fu + 1) B1 mb x1 v := fun v B1 t1 => by
          rw [f_X12_reads_40]
          simp only [if_neg q3, hm.g46, if_neg i2, Option.bind_some, hm.rv, t1]
        rcases J_line hc hv hm hF h42 (by omega) s38 e4 e5 with ⟨A1, B1, c1, w, u1, v1, u2, v2, u3, u4, u5, v3, v4, v5, v6, v7, v8, v9⟩ | ⟨A1, B1, fl, fp, u1, v1, u2, v2, u3, u4, u5⟩
        · have z1 : mi A1 la 0 = nI (W.length + 1) := by rw [u5, h0, nI_1]
          have lenW : (W ++ [w]).length = W.length + 1 := by rw [List.length_append]; rfl
          have hb1 : BB r la l f mb tb n ts A1 B1 c1 (W ++ [w]) := by
            refine ⟨u3, u4, by rw [z1, lenW], ⟨0, v3⟩, v4, by rw [v5, lenW], fun z hz => ?_, by omega, v8, v9⟩
            rcases List.mem_append.mp hz with q | q
            · exact hW z q
            · rw [List.mem_singleton] at q
              rw [q]; exact v6
          rw [ecl A1 u1, emr 1 B1 v1]
          have := ih (fu + 1) _ B1 c1 (W ++ [w]) (by omega) (by omega) hb1
          rw [lenW] at this
          rcases this with ⟨Tc', Tm', c', W', t1, t2, t3, t4, t5⟩ | ⟨Tc', Tm', fl, fp, t1, t2, t3, t4, t5⟩
          · exact Or.inl ⟨Tc', Tm', c', W', t1, t2, u2.tr t3, v2.tr t4, t5⟩
          · exact Or.inr ⟨Tc', Tm', fl, fp, t1, t2, u2.tr t3, v2.tr t4, t5⟩
        · refine Or.inr ⟨A1, B1, fl, fp, ?_, ?_, u2, v2, u3, u4, u5⟩
          · rw [ecl A1 u1]
            exact F_lines6 fu _ u3
          · rw [emr 0 B1 v1]
            exact r40_end fu B1 x1
      · obtain ⟨A2, B3, x1', y1, x2, y2, x3, y3, y4⟩ := bad3 hc hm (x := 1) (by decide)
        refine Or.inr ⟨A2, B3, 1, _, ?_, ?_, x2.1, y2.wl (x := 0) |>.o, x3, y3, y4⟩
        · rw [f_X7_readLines_6]
          unfold f_X7_readLines_42
          simp only [if_neg i24, hc.gs, if_neg i1, g1, eq_self, if_true, Option.bind_some, hc.1.rv, x1']
          by_cases lo : (tkn ts c).1 < 3
          · rw [if_pos (by rw [lt_i, nI_toInt (by omega)]; simp only [Int32.reduceToInt]; omega)]
            exact F_lines6 fu _ x3
          · rw [if_neg (by rw [lt_i, nI_toInt (by omega)]; simp only [Int32.reduceToInt]; omega), if_neg (by rw [le_i, nI_toInt (by omega)]; simp only [Int32.reduceToInt]; omega)]
            exact F_lines6 fu _ x3
        · have al : f_X12_aLine Tm mb = some (0, B3) := by
            have z := mc_38 _ tx.2.1
            unfold f_X12_aLine f_X12_isIn
            simp only [hm.g46, Option.bind_some]
            by_cases lo : nI (mc (tkn ts c).1) < 3
            · simp only [if_pos lo, Option.bind_some, if_true, hm.rv, y1, zchk0]
            · have hi : 8 < nI (mc (tkn ts c).1) := Decidable.byContradiction (fun hi => s38 (z.mp ⟨lo, hi⟩))
              simp only [if_neg lo, if_pos hi, Option.bind_some, if_true, hm.rv, y1, zchk0]
          rw [f_X12_reads_40]
          simp only [if_neg q3, hm.g46, if_neg i2, Option.bind_some, hm.rv, al]
          exact r40_end fu B3 x1
end Lns
