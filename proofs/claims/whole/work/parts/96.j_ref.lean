/-! READS: the reference's reader -/
section Tks
variable {tb : Nat → Nat} {n : Nat}
theorem nv_lt {p : Nat} : ∀ m, (∀ j, p ≤ j → j < p + m → isD (tb j) = true) → nv tb p m < 10 ^ m := by
  intro m
  induction m with
  | zero => intro _; show 0 < 1; omega
  | succ m ih =>
    intro h
    have a := ih (fun j h1 h2 => h j h1 (by omega))
    have b := h (p + m) (by omega) (by omega)
    unfold isD at b
    have b' := of_decide_eq_true b
    show 10 * nv tb p m + (tb (p + m) - 48) < 10 ^ (m + 1)
    rw [Nat.pow_succ]
    omega
theorem TOK.bd {i s p v e : Nat} (h : TOK tb n i s p v e) : s < 27 ∧ e ≤ n ∧ v < 100000 ∧ i ≤ e ∧ p ≤ n := by
  obtain ⟨⟨w1, w2, -, -⟩, h2⟩ := h
  rcases h2 with ⟨a, b, c, d⟩ | ⟨a, b, ⟨c1, c2, -, -⟩, d, e⟩ | ⟨a, b, c, ⟨d1, d2, d3, -⟩, ⟨e1, e2, e3⟩ | ⟨e1, e2, e3⟩⟩ | ⟨a, b, c, d, e1, e2⟩
  · omega
  · have := kw_pos tb p ‹Nat›
    omega
  · have z := nv_lt (tb := tb) (p := p) (e - p) (fun j h1 h2 => d3 j h1 (by omega))
    have : 10 ^ (e - p) ≤ 10 ^ 5 := Nat.pow_le_pow_right (by omega) e1
    omega
  · omega
  · have := sgn_pos (tb p)
    omega
theorem TKS_ix : ∀ (ts : List Tk) (i : Nat), TKS tb n i ts → (∃ s p v e, TOK tb n i s p v e ∧ tkn ts 0 = (s, p, v, e) ∧ 0 < ts.length) ∧ ∀ c, c < ts.length → ((tkn ts c).1 = 0 ∧ c + 1 = ts.length ∨ (tkn ts c).1 ≠ 0 ∧ c + 1 < ts.length ∧ TOK tb n (tkn ts c).2.2.2 (tkn ts (c + 1)).1 (tkn ts (c + 1)).2.1 (tkn ts (c + 1)).2.2.1 (tkn ts (c + 1)).2.2.2) ∧ (tkn ts c).1 < 27 ∧ (tkn ts c).2.2.1 < 100000 ∧ (tkn ts c).2.2.2 ≤ n
  | [], i, h => False.elim h
  | [t], i, h => by
    obtain ⟨h1, h2⟩ := h
    refine ⟨⟨t.1, t.2.1, t.2.2.1, t.2.2.2, h1, rfl, by show 0 < 1; omega⟩, fun c hc => ?_⟩
    have hc' : c < 1 := hc
    obtain rfl : c = 0 := by omega
    have b := h1.bd
    refine ⟨?_, b.1, b.2.2.1, b.2.1⟩
    rcases h2 with ⟨z, -⟩ | ⟨-, z⟩
    · exact Or.inl ⟨z, rfl⟩
    · exact False.elim z
  | t :: u :: ts, i, h => by
    obtain ⟨h1, h2⟩ := h
    have h3 : t.1 ≠ 0 ∧ TKS tb n t.2.2.2 (u :: ts) := by
      rcases h2 with ⟨-, z⟩ | z
      · cases z
      · exact z
    obtain ⟨⟨s, p, v, e, q1, q2, q3⟩, q4⟩ := TKS_ix (u :: ts) _ h3.2
    refine ⟨⟨t.1, t.2.1, t.2.2.1, t.2.2.2, h1, rfl, by show 0 < ts.length + 1 + 1; omega⟩, fun c hc => ?_⟩
    have hc' : c < (u :: ts).length + 1 := hc
    cases c with
    | zero =>
      have b := h1.bd
      refine ⟨Or.inr ⟨h3.1, by show 0 + 1 < (u :: ts).length + 1; omega, ?_⟩, b.1, b.2.2.1, b.2.1⟩
      have e1 : tkn (t :: u :: ts) (0 + 1) = (s, p, v, e) := q2
      rw [e1]
      exact q1
    | succ c =>
      have z := q4 c (by omega)
      refine ⟨?_, z.2⟩
      rcases z.1 with ⟨y1, y2⟩ | ⟨y1, y2, y3⟩
      · exact Or.inl ⟨y1, by show c + 1 + 1 = (u :: ts).length + 1; omega⟩
      · exact Or.inr ⟨y1, by show c + 1 + 1 < (u :: ts).length + 1; omega, y3⟩
theorem mc_eq : ∀ s, s < 27 → ∀ u, u < 27 → (nI (mc s) = nI (mc u) ↔ s = u) := by decide +kernel
theorem nI_e27 : ∀ s, s < 27 → ∀ u, u < 27 → (nI s = nI u ↔ s = u) := by decide +kernel
theorem mc_201 : ∀ s, s < 27 → ((201 : Int32) ≤ nI (mc s) ↔ 10 ≤ s ∧ s ≤ 13) := by decide +kernel
theorem mc_38 : ∀ s, s < 27 → (¬ (nI (mc s) < 3) ∧ ¬ (8 < nI (mc s)) ↔ 3 ≤ s ∧ s ≤ 8) := by decide +kernel
end Tks
theorem LT0.swg {T U : St} {P : Nat → Prop} (h : LT0 T) (w : SW P T U) (hk : ∀ a, P a → kd T a ≤ 20) : LT0 U := by
  unfold LT0
  rw [w.emp, w.lit, w.kd, w.ln]
  refine ⟨h.1, fun i hi => ?_⟩
  obtain ⟨k1, k2, k3⟩ := h.2 i hi
  refine ⟨k1, k2, fun j hj => ?_⟩
  rw [(w.2.2.2 (lit T i) (fun e => by have := hk _ e; omega)).1]
  exact k3 j hj
def Pr (mb z : Nat) : Prop := z = mb ∨ mb + 30 ≤ z ∧ z ≤ mb + 35
def RKm (mb : Nat) (tb : Nat → Nat) (n : Nat) (ts : List Tk) (T : St) : Prop := MOK T mb ∧ LT0 T ∧ BTm T mb tb n ∧ TKS tb n 0 ts ∧ ts.length ≤ 601
def RWm (mb : Nat) (T T' : St) : Prop := SW (fun z => z = mb ∨ z = mb + 35) T T' ∧ ∀ f, (f < 43 ∨ f = 44 ∨ f = 51 ∨ 53 ≤ f) → mi T' mb f = mi T mb f
def PMr (mb : Nat) (tb : Nat → Nat) (n : Nat) (ts : List Tk) (T : St) (c d : Nat) (L : List Sps) : Prop := RKm mb tb n ts T ∧ c < ts.length ∧ mi T mb 45 = nI (tkn ts c).2.2.2 ∧ mi T mb 46 = nI (mc (tkn ts c).1) ∧ mi T mb 47 = nI (tkn ts c).2.1 ∧ ((tkn ts c).1 = 2 → mi T mb 48 = nI (tkn ts c).2.2.1) ∧ mi T mb 43 = nI L.length ∧ mi T mb 49 = 0 ∧ mi T mb 52 = nI d ∧ ∀ j, j < L.length → mi T (mb + 35) (2 * j) = nI (L.getD j (0, 0)).1 ∧ mi T (mb + 35) (2 * j + 1) = (L.getD j (0, 0)).2
section Rr
variable {mb n : Nat} {tb : Nat → Nat} {ts : List Tk} {T T' U : St} {c d : Nat} {L : List Sps}
theorem RWm.rf (T : St) : RWm mb T T := ⟨SW.rf _ _, fun _ _ => rfl⟩
theorem RWm.tr (h : RWm mb T T') (k : RWm mb T' U) : RWm mb T U := ⟨h.1.tr k.1, fun g hg => (k.2 g hg).trans (h.2 g hg)⟩
theorem RWm.pr (h : RWm mb T T') : SW (Pr mb) T T' := h.1.mono (fun z hz => by unfold Pr; omega)
theorem NW.rw (h : NW mb T T') : RWm mb T T' := ⟨h.1.mono (fun z hz => Or.inl hz), fun g hg => h.2 g (by omega) (by omega) (by omega) (by omega)⟩
theorem MOK.k20 (m : MOK T mb) : ∀ a, Pr mb a → kd T a ≤ 20 := fun a h => by
  have h' : a = mb ∨ a = mb + 30 ∨ a = mb + 31 ∨ a = mb + 32 ∨ a = mb + 33 ∨ a = mb + 34 ∨ a = mb + 35 := by unfold Pr at h; omega
  rcases h' with rfl | rfl | rfl | rfl | rfl | rfl | rfl
  · rw [m.1]; omega
  · rw [mK_freshSort m]; omega
  · rw [mK_freshA m]; omega
  · rw [mK_freshB m]; omega
  · rw [mK_freshFrom m]; omega
  · rw [mK_freshWhen m]; omega
  · rw [mK_fresh m]; omega
theorem RKm.sw (h : RKm mb tb n ts T) (w : SW (Pr mb) T T') (h44 : mi T' mb 44 = mi T mb 44) : RKm mb tb n ts T' := by
  obtain ⟨m, l0, b, t⟩ := h
  refine ⟨m.sw w, l0.swg w m.k20, ⟨b.1, by rw [h44]; exact b.2.1, fun i hi => ?_⟩, t⟩
  rw [(w.2.2.2 (mb + 36) (by unfold Pr; omega)).1]
  exact b.2.2 i hi
theorem RKm.rw (h : RKm mb tb n ts T) (w : RWm mb T T') : RKm mb tb n ts T' := h.sw w.pr (w.2 44 (by omega))
theorem PMr.tx (h : PMr mb tb n ts T c d L) : ((tkn ts c).1 = 0 ∧ c + 1 = ts.length ∨ (tkn ts c).1 ≠ 0 ∧ c + 1 < ts.length) ∧ (tkn ts c).1 < 27 ∧ (tkn ts c).2.2.1 < 100000 ∧ (tkn ts c).2.2.2 ≤ n := by
  have z := (TKS_ix ts 0 h.1.2.2.2.1).2 c h.2.1
  refine ⟨?_, z.2⟩
  rcases z.1 with y | y
  · exact Or.inl y
  · exact Or.inr ⟨y.1, y.2.1⟩
/-- the next token -/
theorem M_adv (h : PMr mb tb n ts T c d L) (hs : (tkn ts c).1 ≠ 0) : ∃ T', f_X12_next0 T mb = some T' ∧ RWm mb T T' ∧ PMr mb tb n ts T' (c + 1) d L := by
  have z := (TKS_ix ts 0 h.1.2.2.2.1).2 c h.2.1
  obtain ⟨k, h1, h2, h3, h4, h5, h6, h7, h8, h9⟩ := h
  obtain ⟨z1, z2⟩ : c + 1 < ts.length ∧ TOK tb n (tkn ts c).2.2.2 (tkn ts (c + 1)).1 (tkn ts (c + 1)).2.1 (tkn ts (c + 1)).2.2.1 (tkn ts (c + 1)).2.2.2 := by
    rcases z.1 with y | y
    · exact absurd y.1 hs
    · exact y.2
  obtain ⟨T', s, p, v, e, g1, g2, g3, g4, g5, g6, g7⟩ := M_next0 k.1 k.2.1 k.2.2.1 z.2.2.2 h2
  obtain ⟨e1, e2, e3, e4⟩ := TOK_un g3 z2
  have w := g2.rw
  refine ⟨T', g1, w, k.rw w, z1, by rw [← e4]; exact g4, by rw [← e1]; exact g5, by rw [← e2]; exact g6, fun q => by rw [← e3]; exact g7 (by omega), ?_, ?_, ?_, fun j hj => ?_⟩
  · rw [g2.2 43 (by omega) (by omega) (by omega) (by omega)]; exact h6
  · rw [g2.2 49 (by omega) (by omega) (by omega) (by omega)]; exact h7
  · rw [g2.2 52 (by omega) (by omega) (by omega) (by omega)]; exact h8
  · rw [(g2.1.2.2.2 (mb + 35) (by omega)).1]; exact h9 j hj
/-- a step is laid -/
theorem M_lay (h : PMr mb tb n ts T c d L) (hl : L.length < 610) (t : Nat) (v : Int32) : ∃ T', f_X12_lay T mb (nI t) v = some T' ∧ RWm mb T T' ∧ PMr mb tb n ts T' c d (L ++ [(t, v)]) := by
  obtain ⟨k, h1, h2, h3, h4, h5, h6, h7, h8, h9⟩ := h
  have m := k.1
  obtain ⟨A, hA⟩ : ∃ A, A = setI T (mb + 35) (2 * L.length) (nI t) := ⟨_, rfl⟩
  have wA : RWm mb T A := by rw [hA]; exact ⟨SW_I _ _ (Or.inr rfl), fun g _ => by rw [mi_setI_i, if_neg (by omega)]⟩
  have mA := (k.rw wA).1
  obtain ⟨B, hB⟩ : ∃ B, B = setI A (mb + 35) (2 * L.length + 1) v := ⟨_, rfl⟩
  have wB : RWm mb A B := by rw [hB]; exact ⟨SW_I _ _ (Or.inr rfl), fun g _ => by rw [mi_setI_i, if_neg (by omega)]⟩
  have mB := ((k.rw wA).rw wB).1
  obtain ⟨D, hD⟩ : ∃ D, D = setI B mb 43 (nI (L.length + 1)) := ⟨_, rfl⟩
  have wD : RWm mb B D := by rw [hD]; exact ⟨SW_I _ _ (Or.inl rfl), fun g _ => by rw [mi_setI_i, if_neg (by omega)]⟩
  have w := (wA.tr wB).tr wD
  have a43 : mi A mb 43 = nI L.length := by rw [hA, mi_setI_i, if_neg (by omega)]; exact h6
  have b43 : mi B mb 43 = nI L.length := by rw [hB, mi_setI_i, if_neg (by omega)]; exact a43
  have hO : ∀ g, g ≠ 43 → mi D mb g = mi T mb g := fun g hg => by rw [hD, mi_setI_i, if_neg (by omega), hB, mi_setI_i, if_neg (by omega), hA, mi_setI_i, if_neg (by omega)]
  have len : (L ++ [(t, v)]).length = L.length + 1 := by rw [List.length_append]; rfl
  have ix : (2 : Int32) * nI L.length = nI (2 * L.length) := by rw [show (2 : Int32) = nI 2 from rfl, pk_mul]
  refine ⟨D, ?_, w, k.rw w, h1, by rw [hO _ (by omega)]; exact h2, by rw [hO _ (by omega)]; exact h3, by rw [hO _ (by omega)]; exact h4, by rw [hO _ (by omega)]; exact h5, ?_, by rw [hO _ (by omega)]; exact h7, by rw [hO _ (by omega)]; exact h8, fun j hj => ?_⟩
  · unfold f_X12_lay
    simp only [mR_fresh m, mI m, h6, ix, mS_fresh m (show 2 * L.length < 1220 by omega), nrw15, Option.bind_some, ← hA, mR_fresh mA, mI mA, a43, nI_1, mS_fresh mA (show 2 * L.length + 1 < 1220 by omega), ← hB, mI mB, b43, mP mB, ← hD]
  · rw [len, hD, mi_setI_i, if_pos ⟨rfl, rfl⟩]
  · rw [len] at hj
    rw [hD, mi_setI_i, if_neg (by omega), mi_setI_i, if_neg (by omega), hB, mi_setI_i, mi_setI_i, hA, mi_setI_i, mi_setI_i]
    by_cases e : j = L.length
    · rw [if_neg (by omega), if_pos ⟨rfl, by omega⟩, if_pos ⟨rfl, by omega⟩, e]
      have := getD_r L [(t, v)] (0, 0) 0
      rw [Nat.add_zero] at this
      rw [this]
      exact ⟨rfl, rfl⟩
    · rw [if_neg (by omega), if_neg (by omega), if_neg (by omega), if_neg (by omega), getD_l _ _ _ (by omega)]
      exact h9 j (by omega)
/-- a fault is told -/
theorem M_bad (h : PMr mb tb n ts T c d L) (x : Int32) : ∃ T', f_X12_bad T mb x = some (0, T') ∧ RWm mb T T' ∧ mi T' mb 49 = x ∧ mi T' mb 50 = nI (tkn ts c).2.1 := by
  obtain ⟨k, h1, h2, h3, h4, h5, h6, h7, h8, h9⟩ := h
  have m := k.1
  obtain ⟨A, hA⟩ : ∃ A, A = setI T mb 49 x := ⟨_, rfl⟩
  have wA : RWm mb T A := by rw [hA]; exact ⟨SW_I _ _ (Or.inl rfl), fun g _ => by rw [mi_setI_i, if_neg (by omega)]⟩
  have mA := (k.rw wA).1
  have a47 : mi A mb 47 = nI (tkn ts c).2.1 := by rw [hA, mi_setI_i, if_neg (by omega)]; exact h4
  refine ⟨setI A mb 50 (nI (tkn ts c).2.1), ?_, wA.tr ⟨SW_I _ _ (Or.inl rfl), fun g _ => by rw [mi_setI_i, if_neg (by omega)]⟩, ?_, ?_⟩
  · unfold f_X12_bad
    simp only [mP m, Option.bind_some, ← hA, mI mA, a47, mP mA]
  · rw [mi_setI_i, if_neg (by omega), hA, mi_setI_i, if_pos ⟨rfl, rfl⟩]
  · rw [mi_setI_i, if_pos ⟨rfl, rfl⟩]
/-- the depth is written -/
theorem M_dep (h : PMr mb tb n ts T c d L) (e : Nat) : RWm mb T (setI T mb 52 (nI e)) ∧ PMr mb tb n ts (setI T mb 52 (nI e)) c e L := by
  obtain ⟨k, h1, h2, h3, h4, h5, h6, h7, h8, h9⟩ := h
  have w : RWm mb T (setI T mb 52 (nI e)) := ⟨SW_I _ _ (Or.inl rfl), fun g _ => by rw [mi_setI_i, if_neg (by omega)]⟩
  have hO : ∀ g, g ≠ 52 → mi (setI T mb 52 (nI e)) mb g = mi T mb g := fun g hg => by rw [mi_setI_i, if_neg (by omega)]
  exact ⟨w, k.rw w, h1, by rw [hO _ (by omega)]; exact h2, by rw [hO _ (by omega)]; exact h3, by rw [hO _ (by omega)]; exact h4, by rw [hO _ (by omega)]; exact h5, by rw [hO _ (by omega)]; exact h6, by rw [hO _ (by omega)]; exact h7, by rw [mi_setI_i, if_pos ⟨rfl, rfl⟩], fun j hj => by rw [mi_setI_i, if_neg (by omega), mi_setI_i, if_neg (by omega)]; exact h9 j hj⟩
end Rr
