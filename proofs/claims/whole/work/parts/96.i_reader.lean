/-! READS: the class's reader -/
def Pc (r la z : Nat) : Prop := z = r ∨ z = la ∨ z = la + 1 ∨ z = la + 2
def tkn (ts : List Tk) (c : Nat) : Tk := ts.getD c (0, 0, 0, 0)
def KS (r la l : Nat) (ts : List Tk) (f : Nat → Nat) (T : St) : Prop := kd T r = 8 ∧ mr T r 0 = some la ∧ mr T r 3 = some l ∧ kd T la = 7 ∧ mr T la 7 = some (la + 2) ∧ kd T (la + 2) = 15 ∧ ln T (la + 2) = ts.length ∧ mr T la 1 = some (la + 1) ∧ kd T (la + 1) = 15 ∧ ln T (la + 1) = 4 ∧ LI T l ts.length f ∧ (∀ k, k < ts.length → TKo T (f k) (tkn ts k)) ∧ 0 < ts.length ∧ ts.length ≤ 601
def CWr (r la : Nat) (T T' : St) : Prop := SW (Pc r la) T T' ∧ (∀ f, f ≠ 8 → mi T' la f = mi T la f) ∧ mi T' (la + 1) = mi T (la + 1)
def PCr (r la l : Nat) (ts : List Tk) (f : Nat → Nat) (T : St) (c d : Nat) (C : List Int32) : Prop := KS r la l ts f T ∧ c < ts.length ∧ mi T r 1 = 0 ∧ mi T r 2 = -1 ∧ mi T r 4 = nI (c + 1) ∧ mi T r 5 = nI (tkn ts c).1 ∧ mi T r 6 = nI (tkn ts c).2.1 ∧ mi T r 7 = nI (tkn ts c).2.2.1 ∧ mi T r 8 = nI d ∧ mi T la 8 = nI C.length ∧ C.length ≤ ts.length ∧ ∀ i, i < C.length → mi T (la + 2) i = C.getD i 0
/-- after a fault -/
def FC (r la l : Nat) (ts : List Tk) (f : Nat → Nat) (T : St) (fl fp : Int32) : Prop := KS r la l ts f T ∧ fl ≠ 0 ∧ mi T r 1 = fl ∧ mi T r 2 = fp ∧ mi T r 5 = 1
section Rd
variable {r la l : Nat} {ts : List Tk} {f : Nat → Nat} {T T' U : St} {c d : Nat} {C : List Int32} {fl fp : Int32}
theorem CWr.rf (T : St) : CWr r la T T := ⟨SW.rf _ _, fun _ _ => rfl, rfl⟩
theorem CWr.tr (h : CWr r la T T') (k : CWr r la T' U) : CWr r la T U := ⟨h.1.tr k.1, fun g hg => (k.2.1 g hg).trans (h.2.1 g hg), k.2.2.trans h.2.2⟩
theorem KS.sw (h : KS r la l ts f T) (w : SW (Pc r la) T T') : KS r la l ts f T' := by
  obtain ⟨a1, a2, a3, a4, a5, a6, a7, a8, a9, a10, ⟨b1, b2, b3, ⟨e, b4, b5, b6⟩, b7⟩, a12, a13⟩ := h
  have nl : ¬ Pc r la l := by
    unfold Pc
    rintro (z | z | z | z) <;> rw [z] at b1 <;> omega
  refine ⟨by rw [w.kd]; exact a1, by rw [w.mr]; exact a2, by rw [w.mr]; exact a3, by rw [w.kd]; exact a4, by rw [w.mr]; exact a5, by rw [w.kd]; exact a6, by rw [w.ln]; exact a7, by rw [w.mr]; exact a8, by rw [w.kd]; exact a9, by rw [w.ln]; exact a10, ⟨by rw [w.kd]; exact b1, by rw [(w.2.2.2 l nl).1]; exact b2, b3, ⟨e, by rw [w.mr]; exact b4, by rw [w.kd, w.ln, w.emp]; exact b5, by rw [w.mr]; exact b6⟩, by rw [w.kd]; exact b7⟩, fun k hk => ?_, a13⟩
  obtain ⟨c1, c2, c3, c4⟩ := a12 k hk
  have nf : ¬ Pc r la (f k) := by
    unfold Pc
    rintro (z | z | z | z) <;> rw [z] at c1 <;> omega
  exact ⟨by rw [w.kd]; exact c1, by rw [(w.2.2.2 _ nf).1]; exact c2, by rw [(w.2.2.2 _ nf).1]; exact c3, by rw [(w.2.2.2 _ nf).1]; exact c4⟩
theorem KS.ne (h : KS r la l ts f T) : r ≠ la ∧ r ≠ la + 1 ∧ r ≠ la + 2 := by
  obtain ⟨a1, a2, a3, a4, a5, a6, a7, a8, a9, a10, a11⟩ := h
  refine ⟨fun z => ?_, fun z => ?_, fun z => ?_⟩ <;> rw [z] at a1 <;> omega
theorem KS.cr (h : KS r la l ts f T) (k : Nat) (v : Int32) : CWr r la T (setI T r k v) := by
  obtain ⟨n1, n2, n3⟩ := h.ne
  exact ⟨SW_I _ _ (Or.inl rfl), fun g _ => by rw [mi_setI_i, if_neg (fun z => n1 z.1.symm)], by funext j; rw [mi_setI_i, if_neg (fun z => n2 z.1.symm)]⟩
/-- the reader goes on by one token -/
theorem X_adv (h : PCr r la l ts f T c d C) (hc : c + 1 < ts.length) : ∃ T', f_X7_advance T r = some T' ∧ CWr r la T T' ∧ PCr r la l ts f T' (c + 1) d C := by
  obtain ⟨k, h1, h2, h3, h4, h5, h6, h7, h8, h9, h10, h11⟩ := h
  have k0 := k
  obtain ⟨a1, a2, a3, a4, a5, a6, a7, a8, a9, a10, a11, a12, a13, a14⟩ := k
  obtain ⟨n1, n2, n3⟩ := k0.ne
  obtain ⟨t1, t2, t3, t4⟩ := a12 (c + 1) hc
  have nr : f (c + 1) ≠ r := fun z => by rw [z] at t1; omega
  obtain ⟨A, hA⟩ : ∃ A, A = setI T r 4 (nI (c + 1 + 1)) := ⟨_, rfl⟩
  have wA : CWr r la T A := by rw [hA]; exact k0.cr _ _
  have kA := k0.sw wA.1
  obtain ⟨B, hB⟩ : ∃ B, B = setI A r 5 (nI (tkn ts (c + 1)).1) := ⟨_, rfl⟩
  have wB : CWr r la A B := by rw [hB]; exact kA.cr _ _
  have kB := kA.sw wB.1
  obtain ⟨D, hD⟩ : ∃ D, D = setI B r 6 (nI (tkn ts (c + 1)).2.1) := ⟨_, rfl⟩
  have wD : CWr r la B D := by rw [hD]; exact kB.cr _ _
  have kD := kB.sw wD.1
  obtain ⟨E, hE⟩ : ∃ E, E = setI D r 7 (nI (tkn ts (c + 1)).2.2.1) := ⟨_, rfl⟩
  have wE : CWr r la D E := by rw [hE]; exact kD.cr _ _
  have kE := kD.sw wE.1
  have w := ((wA.tr wB).tr wD).tr wE
  refine ⟨E, ?_, w, kE, hc, ?_, ?_, ?_, ?_, ?_, ?_, ?_, ?_, h10, fun i hi => ?_⟩
  · unfold f_X7_advance
    have tA := kA.2.2.2.2.2.2.2.2.2.2.2.1 (c + 1) hc
    have tB := kB.2.2.2.2.2.2.2.2.2.2.2.1 (c + 1) hc
    have tD := kD.2.2.2.2.2.2.2.2.2.2.2.1 (c + 1) hc
    simp only [getI_s a1, h2, h4, Option.bind_some, if_true]
    rw [if_neg (nI_pos (by omega))]
    simp only [getR_s a1, a3, rcv_s a11.1, L_size a11, Option.bind_some]
    rw [if_pos (nI_lt hc (by omega))]
    simp only [L_get a11 hc, castO_s t1, putI_s a1, nI_1, ← hA, getI_s tA.1, tA.2.1, Option.bind_some, putI_s kA.1, ← hB, getI_s tB.1, tB.2.2.1, putI_s kB.1, ← hD, getI_s tD.1, tD.2.2.2, putI_s kD.1, ← hE]
  · rw [hE, mi_setI_i, if_neg (by omega), hD, mi_setI_i, if_neg (by omega), hB, mi_setI_i, if_neg (by omega), hA, mi_setI_i, if_neg (by omega)]; exact h2
  · rw [hE, mi_setI_i, if_neg (by omega), hD, mi_setI_i, if_neg (by omega), hB, mi_setI_i, if_neg (by omega), hA, mi_setI_i, if_neg (by omega)]; exact h3
  · rw [hE, mi_setI_i, if_neg (by omega), hD, mi_setI_i, if_neg (by omega), hB, mi_setI_i, if_neg (by omega), hA, mi_setI_i, if_pos ⟨rfl, rfl⟩]
  · rw [hE, mi_setI_i, if_neg (by omega), hD, mi_setI_i, if_neg (by omega), hB, mi_setI_i, if_pos ⟨rfl, rfl⟩]
  · rw [hE, mi_setI_i, if_neg (by omega), hD, mi_setI_i, if_pos ⟨rfl, rfl⟩]
  · rw [hE, mi_setI_i, if_pos ⟨rfl, rfl⟩]
  · rw [hE, mi_setI_i, if_neg (by omega), hD, mi_setI_i, if_neg (by omega), hB, mi_setI_i, if_neg (by omega), hA, mi_setI_i, if_neg (by omega)]; exact h8
  · rw [hE, mi_setI_i, if_neg (by omega), hD, mi_setI_i, if_neg (by omega), hB, mi_setI_i, if_neg (by omega), hA, mi_setI_i, if_neg (by omega)]; exact h9
  · rw [hE, mi_setI_i, if_neg (by omega), hD, mi_setI_i, if_neg (by omega), hB, mi_setI_i, if_neg (by omega), hA, mi_setI_i, if_neg (by omega)]; exact h11 i hi
/-- a step of code is added -/
theorem X_code (h : PCr r la l ts f T c d C) (hc : C.length < ts.length) (v : Int32) : ∃ T', f_X6_addCode T la v = some T' ∧ CWr r la T T' ∧ PCr r la l ts f T' c d (C ++ [v]) := by
  obtain ⟨k, h1, h2, h3, h4, h5, h6, h7, h8, h9, h10, h11⟩ := h
  have k0 := k
  obtain ⟨a1, a2, a3, a4, a5, a6, a7, a8, a9, a10, a11, a12, a13, a14⟩ := k
  obtain ⟨n1, n2, n3⟩ := k0.ne
  obtain ⟨A, hA⟩ : ∃ A, A = setI T (la + 2) C.length v := ⟨_, rfl⟩
  have wA : CWr r la T A := by rw [hA]; exact ⟨SW_I _ _ (Or.inr (Or.inr (Or.inr rfl))), fun g _ => by rw [mi_setI_i, if_neg (by omega)], by funext j; rw [mi_setI_i, if_neg (by omega)]⟩
  have kA := k0.sw wA.1
  obtain ⟨B, hB⟩ : ∃ B, B = setI A la 8 (nI (C.length + 1)) := ⟨_, rfl⟩
  have wB : CWr r la A B := by rw [hB]; exact ⟨SW_I _ _ (Or.inr (Or.inl rfl)), fun g hg => by rw [mi_setI_i, if_neg (by omega)], by funext j; rw [mi_setI_i, if_neg (by omega)]⟩
  have kB := kA.sw wB.1
  have hr : ∀ j, mi B r j = mi T r j := fun j => by rw [hB, mi_setI_i, if_neg (by omega), hA, mi_setI_i, if_neg (by omega)]
  have len : (C ++ [v]).length = C.length + 1 := by rw [List.length_append]; rfl
  refine ⟨B, ?_, wA.tr wB, kB, h1, by rw [hr]; exact h2, by rw [hr]; exact h3, by rw [hr]; exact h4, by rw [hr]; exact h5, by rw [hr]; exact h6, by rw [hr]; exact h7, by rw [hr]; exact h8, ?_, by omega, fun i hi => ?_⟩
  · unfold f_X6_addCode
    have e1 : alen T (some (la + 2)) = some (nI ts.length) := alen_s (by rw [a6]; omega) a7
    have e2 : mi A la 8 = nI C.length := by rw [hA, mi_setI_i, if_neg (by omega)]; exact h9
    simp only [getI_s a4, h9, getR_s a4, a5, e1, X_isWithin, i01, nI_toInt (show C.length < 2 ^ 31 by omega), nI_toInt (show ts.length < 2 ^ 31 by omega), Option.bind_some]
    rw [if_neg (fun z => z (by omega))]
    simp only [stI_s a6 a7 hc (show ts.length < 2 ^ 31 by omega), nrw15, ← hA, Option.bind_some, getI_s kA.2.2.2.1, e2, nI_1, putI_s kA.2.2.2.1, ← hB]
  · rw [len, hB, mi_setI_i, if_pos ⟨rfl, rfl⟩]
  · rw [len] at hi
    rw [hB, mi_setI_i, if_neg (by omega), hA, mi_setI_i]
    by_cases e : i = C.length
    · rw [if_pos ⟨rfl, e⟩, e]
      have := getD_r C [v] 0 0
      rw [Nat.add_zero] at this
      rw [this]; rfl
    · rw [if_neg (fun z => e z.2), h11 i (by omega), getD_l _ _ _ (by omega)]
/-- a fault is told -/
theorem X_ref (h : PCr r la l ts f T c d C) {x : Int32} (hx : x ≠ 0) : ∃ T', f_X7_refuse T r x = some T' ∧ CWr r la T T' ∧ FC r la l ts f T' x (nI (tkn ts c).2.1) := by
  obtain ⟨k, h1, h2, h3, h4, h5, h6, h7, h8, h9, h10, h11⟩ := h
  obtain ⟨A, hA⟩ : ∃ A, A = setI T r 1 x := ⟨_, rfl⟩
  have wA : CWr r la T A := by rw [hA]; exact k.cr _ _
  have kA := k.sw wA.1
  obtain ⟨B, hB⟩ : ∃ B, B = setI A r 2 (nI (tkn ts c).2.1) := ⟨_, rfl⟩
  have wB : CWr r la A B := by rw [hB]; exact kA.cr _ _
  have kB := kA.sw wB.1
  obtain ⟨D, hD⟩ : ∃ D, D = setI B r 5 1 := ⟨_, rfl⟩
  have wD : CWr r la B D := by rw [hD]; exact kB.cr _ _
  have e6 : mi A r 6 = nI (tkn ts c).2.1 := by rw [hA, mi_setI_i, if_neg (by omega)]; exact h6
  refine ⟨D, ?_, (wA.tr wB).tr wD, kB.sw wD.1, hx, ?_, ?_, ?_⟩
  · unfold f_X7_refuse f_X7_refuse_20
    simp only [getI_s k.1, h2, Option.bind_some, if_true, putI_s k.1, ← hA, getI_s kA.1, e6, putI_s kA.1, ← hB, putI_s kB.1, ← hD]
  · rw [hD, mi_setI_i, if_neg (by omega), hB, mi_setI_i, if_neg (by omega), hA, mi_setI_i, if_pos ⟨rfl, rfl⟩]
  · rw [hD, mi_setI_i, if_neg (by omega), hB, mi_setI_i, if_pos ⟨rfl, rfl⟩]
  · rw [hD, mi_setI_i, if_pos ⟨rfl, rfl⟩]
/-! after a fault -/
theorem F_adv (h : FC r la l ts f T fl fp) : f_X7_advance T r = some T := by
  obtain ⟨k, h1, h2, h3, h4⟩ := h
  unfold f_X7_advance
  simp only [getI_s k.1, h2, Option.bind_some]
  rw [if_neg h1]
theorem F_ref (h : FC r la l ts f T fl fp) (x : Int32) : ∃ T', f_X7_refuse T r x = some T' ∧ CWr r la T T' ∧ FC r la l ts f T' fl fp := by
  obtain ⟨k, h1, h2, h3, h4⟩ := h
  have w : CWr r la T (setI T r 5 1) := k.cr _ _
  refine ⟨setI T r 5 1, ?_, w, k.sw w.1, h1, ?_, ?_, ?_⟩
  · unfold f_X7_refuse f_X7_refuse_20
    simp only [getI_s k.1, h2, Option.bind_some, putI_s k.1]
    rw [if_neg h1]
  · rw [mi_setI_i, if_neg (by omega)]; exact h2
  · rw [mi_setI_i, if_neg (by omega)]; exact h3
  · rw [mi_setI_i, if_pos ⟨rfl, rfl⟩]
theorem F_set (h : FC r la l ts f T fl fp) (k : Nat) (hk : k = 8) (v : Int32) : CWr r la T (setI T r k v) ∧ FC r la l ts f (setI T r k v) fl fp := by
  obtain ⟨k0, h1, h2, h3, h4⟩ := h
  have w : CWr r la T (setI T r k v) := k0.cr _ _
  exact ⟨w, k0.sw w.1, h1, by rw [mi_setI_i, if_neg (by omega)]; exact h2, by rw [mi_setI_i, if_neg (by omega)]; exact h3, by rw [mi_setI_i, if_neg (by omega)]; exact h4⟩
theorem F_code (h : FC r la l ts f T fl fp) (v : Int32) : ∃ T', f_X6_addCode T la v = some T' ∧ CWr r la T T' ∧ FC r la l ts f T' fl fp := by
  obtain ⟨k, h1, h2, h3, h4⟩ := h
  have k0 := k
  obtain ⟨a1, a2, a3, a4, a5, a6, a7, a8, a9, a10, a11, a12, a13, a14⟩ := k
  obtain ⟨n1, n2, n3⟩ := k0.ne
  have e1 : alen T (some (la + 2)) = some (nI ts.length) := alen_s (by rw [a6]; omega) a7
  by_cases c : 0 ≤ (mi T la 8).toInt ∧ (mi T la 8).toInt < (nI ts.length).toInt
  · rw [nI_toInt (show ts.length < 2 ^ 31 by omega)] at c
    obtain ⟨j, hj, e8⟩ : ∃ j : Nat, j < ts.length ∧ mi T la 8 = nI j := ⟨(mi T la 8).toInt.toNat, by omega, by rw [eq_i, nI_toInt (by omega)]; omega⟩
    obtain ⟨A, hA⟩ : ∃ A, A = setI T (la + 2) j v := ⟨_, rfl⟩
    have wA : CWr r la T A := by rw [hA]; exact ⟨SW_I _ _ (Or.inr (Or.inr (Or.inr rfl))), fun g _ => by rw [mi_setI_i, if_neg (by omega)], by funext j; rw [mi_setI_i, if_neg (by omega)]⟩
    have kA := k0.sw wA.1
    obtain ⟨B, hB⟩ : ∃ B, B = setI A la 8 (nI j + 1) := ⟨_, rfl⟩
    have wB : CWr r la A B := by rw [hB]; exact ⟨SW_I _ _ (Or.inr (Or.inl rfl)), fun g hg => by rw [mi_setI_i, if_neg (by omega)], by funext j; rw [mi_setI_i, if_neg (by omega)]⟩
    have hr : ∀ j, mi B r j = mi T r j := fun j => by rw [hB, mi_setI_i, if_neg (by omega), hA, mi_setI_i, if_neg (by omega)]
    have e2 : mi A la 8 = nI j := by rw [hA, mi_setI_i, if_neg (by omega)]; exact e8
    refine ⟨B, ?_, wA.tr wB, kA.sw wB.1, h1, by rw [hr]; exact h2, by rw [hr]; exact h3, by rw [hr]; exact h4⟩
    unfold f_X6_addCode
    simp only [getI_s a4, e8, getR_s a4, a5, e1, X_isWithin, i01, nI_toInt (show j < 2 ^ 31 by omega), nI_toInt (show ts.length < 2 ^ 31 by omega), Option.bind_some]
    rw [if_neg (fun z => z (by omega))]
    simp only [stI_s a6 a7 hj (show ts.length < 2 ^ 31 by omega), nrw15, ← hA, Option.bind_some, getI_s kA.2.2.2.1, e2, putI_s kA.2.2.2.1, ← hB]
  · refine ⟨T, ?_, CWr.rf _, k0, h1, h2, h3, h4⟩
    unfold f_X6_addCode
    simp only [getI_s a4, getR_s a4, a5, e1, X_isWithin, i01, Option.bind_some]
    rw [if_pos c]
end Rd
