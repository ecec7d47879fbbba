/-! READS: the reference's tokens -/
def BTm (T : St) (mb : Nat) (tb : Nat → Nat) (n : Nat) : Prop := n ≤ 600 ∧ mi T mb 44 = nI n ∧ ∀ i, i < n → mi T (mb + 36) i = nI (tb i) ∧ tb i < 256
def NW (mb : Nat) (T U : St) : Prop := SW (fun z => z = mb) T U ∧ ∀ f, f ≠ 45 → f ≠ 46 → f ≠ 47 → f ≠ 48 → mi U mb f = mi T mb f
theorem NW.rf (mb : Nat) (T : St) : NW mb T T := ⟨SW.rf _ _, fun _ _ _ _ _ => rfl⟩
theorem NW.tr {mb : Nat} {T U V : St} (h : NW mb T U) (k : NW mb U V) : NW mb T V := ⟨h.1.tr k.1, fun f a b c d => (k.2 f a b c d).trans (h.2 f a b c d)⟩
theorem NW_I {mb : Nat} {T : St} (f : Nat) (v : Int32) (hf : f = 45 ∨ f = 46 ∨ f = 47 ∨ f = 48) : NW mb T (setI T mb f v) := ⟨SW_I _ _ rfl, fun g a b c d => by rw [mi_setI_i, if_neg (by omega)]⟩
theorem NW.bt {mb n : Nat} {T U : St} {tb : Nat → Nat} (h : NW mb T U) (b : BTm T mb tb n) : BTm U mb tb n := ⟨b.1, by rw [h.2 44 (by omega) (by omega) (by omega) (by omega)]; exact b.2.1, fun i hi => by rw [(h.1.2.2.2 (mb + 36) (by omega)).1]; exact b.2.2 i hi⟩
theorem LT0.sw {T U : St} {mb : Nat} (h : LT0 T) (w : SW (fun z => z = mb) T U) (hk : kd T mb = 13) : LT0 U := by
  unfold LT0
  rw [w.emp, w.lit, w.kd, w.ln]
  refine ⟨h.1, fun i hi => ?_⟩
  obtain ⟨k1, k2, k3⟩ := h.2 i hi
  refine ⟨k1, k2, fun j hj => ?_⟩
  rw [(w.2.2.2 (lit T i) (fun e => by rw [e] at k1; omega)).1]
  exact k3 j hj
section Nxt
variable {T : St} {mb n p e : Nat} {tb : Nat → Nat}
theorem M_see (m : MOK T mb) (hb : BTm T mb tb n) {i : Nat} (hi : i ≤ n) : f_X12_see T mb (nI i) = some (if i < n then nI (tb i) else -1) := by
  have h6 := hb.1
  unfold f_X12_see
  simp only [mI m, hb.2.1, Option.bind_some]
  by_cases c : i < n
  · rw [if_neg (nI_ge (by omega) (by omega)), if_pos c]
    simp only [mR_tape m, mL_tape m (show i < 600 by omega), (hb.2.2 i c).1, Option.bind_some]
  · rw [if_pos (nI_le (by omega) (by omega)), if_neg c]
/-- blanks are gone over -/
theorem M_n0 : ∀ (m i fu : Nat) (T : St), i + m = n → m < fu → MOK T mb → BTm T mb tb n → mi T mb 45 = nI i → ∃ p T', f_X12_next0_0 fu T mb = some (mb, T') ∧ NW mb T T' ∧ WE isB tb n i p ∧ mi T' mb 45 = nI p ∧ mi T' mb 46 = mi T mb 46 ∧ mi T' mb 48 = mi T mb 48 := by
  intro m
  induction m with
  | zero =>
    intro i fu T e1 e2 mT hb h45
    obtain ⟨fu, rfl⟩ : ∃ k, fu = k + 1 := ⟨fu - 1, by omega⟩
    unfold f_X12_next0_0
    simp only [mI mT, h45, mV mT, M_see mT hb (show i ≤ n by omega), Option.bind_some]
    rw [if_neg (show ¬ i < n by omega), if_neg (by decide), if_neg (by decide)]
    exact ⟨i, T, rfl, NW.rf _ _, ⟨Nat.le_refl _, by omega, fun j h1 h2 => by omega, fun h => by omega⟩, h45, rfl, rfl⟩
  | succ m ih =>
    intro i fu T e1 e2 mT hb h45
    obtain ⟨fu, rfl⟩ : ∃ k, fu = k + 1 := ⟨fu - 1, by omega⟩
    have hi : i < n := by omega
    have ck := (ch_k (hb.2.2 i hi).2 T).2.2.2.2.2.2.1
    unfold f_X12_next0_0 f_X12_next0_26
    simp only [mI mT, h45, mV mT, M_see mT hb (show i ≤ n by omega), if_pos hi, Option.bind_some, mP mT, nI_1]
    obtain ⟨A, hA⟩ : ∃ A, A = setI T mb 45 (nI (i + 1)) := ⟨_, rfl⟩
    rw [← hA]
    have wA : NW mb T A := by rw [hA]; exact NW_I 45 _ (Or.inl rfl)
    have a45 : mi A mb 45 = nI (i + 1) := by rw [hA, mi_setI_i, if_pos ⟨rfl, rfl⟩]
    have aO : ∀ f, f ≠ 45 → mi A mb f = mi T mb f := fun f hf => by rw [hA, mi_setI_i, if_neg (by omega)]
    have more : isB (tb i) = true → ∃ p T', f_X12_next0_0 fu A mb = some (mb, T') ∧ NW mb T T' ∧ WE isB tb n i p ∧ mi T' mb 45 = nI p ∧ mi T' mb 46 = mi T mb 46 ∧ mi T' mb 48 = mi T mb 48 := by
      intro hB
      obtain ⟨p, T', g1, g2, ⟨g3, g4, g5, g6⟩, g7, g8, g9⟩ := ih (i + 1) fu A (by omega) (by omega) (mT.sw wA.1) (wA.bt hb) a45
      refine ⟨p, T', g1, wA.tr g2, ⟨by omega, g4, fun j h1 h2 => ?_, g6⟩, g7, by rw [g8, aO 46 (by omega)], by rw [g9, aO 48 (by omega)]⟩
      by_cases q : j = i
      · rw [q]; exact hB
      · exact g5 j (by omega) h2
    by_cases c1 : nI (tb i) = 32
    · rw [if_pos c1]
      exact more (ck.mp (Or.inl c1))
    · rw [if_neg c1]
      by_cases c2 : nI (tb i) = 10
      · rw [if_pos c2]
        exact more (ck.mp (Or.inr c2))
      · rw [if_neg c2]
        have nb : isB (tb i) = false := by
          cases hh : isB (tb i) with
          | true => exact absurd (ck.mpr hh) (fun z => z.elim c1 c2)
          | false => rfl
        exact ⟨i, T, rfl, NW.rf _ _, WE_0 hi nb, h45, rfl, rfl⟩
theorem M_is24 (m : MOK T mb) (h0 : LT0 T) (hb : BTm T mb tb n) (h47 : mi T mb 47 = nI p) {i : Nat} (hi : i < 14) (hl : p + litLen i ≤ n) : ∀ (r k fu : Nat), k + r = litLen i → r < fu → f_X12_is_24 fu T mb (some (lit T i)) 1 (nI k) = some (if mat tb p i r k then 1 else 0) := by
  have h6 := hb.1
  obtain ⟨q1, q2, q3⟩ := lt_L h0 (show i < 15 by omega)
  have z0 : ∀ fu k, 0 < fu → f_X12_is_24 fu T mb (some (lit T i)) 0 k = some 0 := fun fu k hf => by
    obtain ⟨fu, rfl⟩ : ∃ j, fu = j + 1 := ⟨fu - 1, by omega⟩
    unfold f_X12_is_24
    simp only [q1, q2, Option.bind_some, if_true]
    split <;> rfl
  intro r
  induction r with
  | zero =>
    intro k fu e1 e2
    obtain ⟨fu, rfl⟩ : ∃ k, fu = k + 1 := ⟨fu - 1, by omega⟩
    unfold f_X12_is_24
    simp only [q1, q2, Option.bind_some]
    rw [if_pos (nI_le (by omega) (by omega))]
    rfl
  | succ r ih =>
    intro k fu e1 e2
    obtain ⟨fu, rfl⟩ : ∃ k, fu = k + 1 := ⟨fu - 1, by omega⟩
    have hk : p + k < n := by omega
    unfold f_X12_is_24
    simp only [q1, q2, Option.bind_some]
    rw [if_neg (nI_ge (by omega) (by omega)), if_neg (by decide)]
    simp only [mR_tape m, mI m, h47, nI_add, mL_tape m (show p + k < 600 by omega), (hb.2.2 (p + k) hk).1, q3 k (by omega), Option.bind_some, nI_1, ih (k + 1) fu (by omega) (by omega), z0 fu (nI (k + 1)) (by omega)]
    show _ = some (if (decide (litC i k = nI (tb (p + k))) && mat tb p i r (k + 1)) = true then 1 else 0)
    by_cases c : litC i k = nI (tb (p + k))
    · rw [if_pos c.symm, decide_eq_true c, Bool.true_and]
    · rw [if_neg (fun z => c z.symm), decide_eq_false c, Bool.false_and]
      rfl
theorem M_is (m : MOK T mb) (h0 : LT0 T) (hb : BTm T mb tb n) (h47 : mi T mb 47 = nI p) (h45 : mi T mb 45 = nI e) (hpe : p ≤ e) (hen : e ≤ n) {i : Nat} (hi : i < 14) : f_X12_is T mb (some (lit T i)) = some (if mw tb p e i then 1 else 0) := by
  have h6 := hb.1
  obtain ⟨q1, q2, q3⟩ := lt_L h0 (show i < 15 by omega)
  have hl : litLen i < 100 := by
    have : ∀ i, i < 15 → litLen i < 100 := by decide
    exact this i (by omega)
  have mwe : mw tb p e i = true ↔ litLen i = e - p ∧ ∀ j, 0 ≤ j → j < 0 + litLen i → litC i j = nI (tb (p + j)) := by
    unfold mw
    rw [Bool.and_eq_true, decide_eq_true_eq, List.all_eq_true]
    exact ⟨fun z => ⟨z.1, fun j _ hj => of_decide_eq_true (z.2 j (List.mem_range.mpr (by omega)))⟩, fun z => ⟨z.1, fun j hj => decide_eq_true (z.2 j (Nat.zero_le _) (by have := List.mem_range.mp hj; omega))⟩⟩
  unfold f_X12_is
  simp only [mI m, h45, h47, q1, q2, Option.bind_some, pk_sub hpe]
  by_cases c : litLen i = e - p
  · rw [if_pos (by rw [c])]
    have g := M_is24 m h0 hb h47 hi (by omega) (litLen i) 0 FU (by omega) (by unfold FU; omega)
    rw [nI_0] at g
    rw [g]
    congr 1
    exact ifc ⟨fun z => mwe.mpr ⟨c, (mat_iff _ _).mp z⟩, fun z => (mat_iff _ _).mpr (mwe.mp z).2⟩
  · rw [if_neg (fun z => c ((nI_eq (by omega) (by omega)).mp z).symm), if_neg (fun z => c (mwe.mp z).1)]
    obtain ⟨F, hF⟩ : ∃ F, FU = F + 1 := ⟨999999, rfl⟩
    rw [hF]
    unfold f_X12_is_24
    simp only [q1, q2, Option.bind_some, if_true]
    split <;> rfl
/-- the reference's code of a sort -/
def mc (s : Nat) : Nat := if s ≤ 9 then s else if s ≤ 13 then s + 191 else if s ≤ 16 then s - 4 else if s = 17 then 59 else if s = 18 then 43 else if s = 19 then 45 else if s = 20 then 42 else if s = 21 then 47 else if s = 22 then 40 else if s = 23 then 41 else if s = 24 then 60 else if s = 25 then 61 else 62
theorem M_word (m : MOK T mb) (h0 : LT0 T) (hb : BTm T mb tb n) (h47 : mi T mb 47 = nI p) (h45 : mi T mb 45 = nI e) (hpe : p ≤ e) (hen : e ≤ n) : f_X12_word T mb = some (nI (mc (kw tb p e))) := by
  have is := fun {i : Nat} (hi : i < 14) => M_is m h0 hb h47 h45 hpe hen hi
  unfold f_X12_word
  simp only [mV m, is (i := 0) (by omega), is (i := 1) (by omega), is (i := 2) (by omega), is (i := 3) (by omega), is (i := 4) (by omega), is (i := 5) (by omega), is (i := 6) (by omega), is (i := 7) (by omega), is (i := 8) (by omega), is (i := 9) (by omega), is (i := 10) (by omega), is (i := 11) (by omega), is (i := 12) (by omega), is (i := 13) (by omega), Option.bind_some]
  rcases kwn_is (tb := tb) (p := p) (e := e) 14 0 rfl with ⟨j, -, a2, a3, a4⟩ | ⟨a1, a2⟩
  · have ne : ∀ i, i < 14 → i ≠ j → mw tb p e i = false := fun i hi hn => by
      cases hh : mw tb p e i with
      | true => exact absurd (mw_un hi a2 hh a3) hn
      | false => rfl
    have e4 : kw tb p e = j + 3 := a4
    rw [e4]
    have : j = 0 ∨ j = 1 ∨ j = 2 ∨ j = 3 ∨ j = 4 ∨ j = 5 ∨ j = 6 ∨ j = 7 ∨ j = 8 ∨ j = 9 ∨ j = 10 ∨ j = 11 ∨ j = 12 ∨ j = 13 := by omega
    rcases this with rfl | rfl | rfl | rfl | rfl | rfl | rfl | rfl | rfl | rfl | rfl | rfl | rfl | rfl
    all_goals simp [a3, ne, mc]
    all_goals rfl
  · have e4 : kw tb p e = 1 := a2
    rw [e4]
    have ne : ∀ i, i < 14 → mw tb p e i = false := fun i hi => a1 i (Nat.zero_le _) hi
    simp [ne, mc]
    rfl
end Nxt
