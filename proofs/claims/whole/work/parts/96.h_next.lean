theorem bnd {α β : Type} {o : Option α} {a : α} {K : α → Option β} (h : o = some a) : o.bind K = K a := by
  rw [h]
  rfl
/-- the reference goes on by one token -/
theorem M_next0 {T : St} {mb n i : Nat} {tb : Nat → Nat} (m : MOK T mb) (h0 : LT0 T) (hb : BTm T mb tb n) (hi : i ≤ n) (h45 : mi T mb 45 = nI i) : ∃ T' s p v e, f_X12_next0 T mb = some T' ∧ NW mb T T' ∧ TOK tb n i s p v e ∧ mi T' mb 45 = nI e ∧ mi T' mb 46 = nI (mc s) ∧ mi T' mb 47 = nI p ∧ (s = 2 → mi T' mb 48 = nI v) := by
  have h6 := hb.1
  obtain ⟨p, A, a1, a2, a3, a4, a5, a6⟩ := M_n0 (mb := mb) (tb := tb) (n - i) i FU T (by omega) (by unfold FU; omega) m hb h45
  have mA := m.sw a2.1
  have bA := a2.bt hb
  have lA := h0.sw a2.1 m.1
  have pn := a3.2.1
  obtain ⟨B, hB⟩ : ∃ B, B = setI A mb 47 (nI p) := ⟨_, rfl⟩
  have wB : NW mb T B := a2.tr (by rw [hB]; exact NW_I 47 _ (Or.inr (Or.inr (Or.inl rfl))))
  have mB := m.sw wB.1
  have bB := wB.bt hb
  have lB := h0.sw wB.1 m.1
  have b45 : mi B mb 45 = nI p := by rw [hB, mi_setI_i, if_neg (by omega)]; exact a4
  have b47 : mi B mb 47 = nI p := by rw [hB, mi_setI_i, if_pos ⟨rfl, rfl⟩]
  by_cases hp : p < n
  · have hk := (bB.2.2 p hp).2
    have ck := (ch_k hk B).2.2.2.2
    have n1 : ¬ (nI (tb p) = -1) := nI_ne1 (by omega)
    cases cl : isL (tb p) with
    | true =>
      obtain ⟨e, T', g1, g2, g3, g4, g5, g6, g7⟩ := M_n76 (p := p) (n - p) p FU B (by omega) (by unfold FU; omega) (Nat.le_refl _) mB lB bB b45 b47 (fun j h1 h2 => by omega)
      refine ⟨T', kw tb p e, p, 0, e, ?_, wB.tr g2, ⟨a3, Or.inr (Or.inl ⟨hp, cl, g3, rfl, rfl⟩)⟩, g4, g5, g6, fun z => ?_⟩
      · unfold f_X12_next0
        refine (bnd a1).trans ?_
        simp only [mI mA, a4, mP mA, Option.bind_some, ← hB, mI mB, b45, mV mB, M_see mB bB pn, if_pos hp, ck.1, cl, if_true]
        rw [if_neg n1, if_neg (by decide)]
        exact g1
      · rcases kwn_is (tb := tb) (p := p) (e := e) 14 0 rfl with ⟨j, -, b2, -, b4⟩ | ⟨-, b2⟩
        · have : kw tb p e = j + 3 := b4
          omega
        · have : kw tb p e = 1 := b2
          omega
    | false =>
      cases cd : isD (tb p) with
      | true =>
        obtain ⟨C, hC⟩ : ∃ C, C = setI B mb 48 0 := ⟨_, rfl⟩
        have wC : NW mb T C := wB.tr (by rw [hC]; exact NW_I 48 _ (Or.inr (Or.inr (Or.inr rfl))))
        have mC := m.sw wC.1
        have c48 : mi C mb 48 = 0 := by rw [hC, mi_setI_i, if_pos ⟨rfl, rfl⟩]
        have cO : ∀ f, f ≠ 48 → mi C mb f = mi B mb f := fun f hf => by rw [hC, mi_setI_i, if_neg (by omega)]
        obtain ⟨e, D, g1, g2, g3, g4, g5, g6⟩ := M_n126 (p := p) (tb := tb) (n - p) p FU C (by omega) (by unfold FU; omega) (Nat.le_refl _) mC (wC.bt hb) (by rw [cO 45 (by omega)]; exact b45) (by rw [cO 47 (by omega)]; exact b47) (by rw [c48, Nat.sub_self]; rfl) (fun j h1 h2 => by omega)
        have wD := wC.tr g2
        have mD := m.sw wD.1
        have he := g3.2.1
        have hpe := g3.1
        have body : f_X12_next0 T mb = (if (6 : Int32) ≤ nI (e - p) then some (setI D mb 46 1) else some (setI D mb 46 2)) := by
          unfold f_X12_next0
          refine (bnd a1).trans ?_
          simp only [mI mA, a4, mP mA, Option.bind_some, ← hB, mI mB, b45, mV mB, M_see mB bB pn, if_pos hp, ck.1, ck.2.1, cl, cd, mP mB, ← hC]
          rw [if_neg n1, if_neg (show ¬ (false = true) by decide), if_pos rfl, if_neg (by decide)]
          refine (bnd g1).trans ?_
          unfold f_X12_next0_209
          simp only [mI mD, g4, g5, pk_sub hpe, mP mD, Option.bind_some]
        by_cases h5 : e - p ≤ 5
        · rw [body, if_neg (by rw [le_i, nI_toInt (by omega)]; simp only [Int32.reduceToInt]; omega)]
          refine ⟨_, 2, p, nv tb p (e - p), e, rfl, wD.tr (NW_I 46 _ (Or.inr (Or.inl rfl))), ⟨a3, Or.inr (Or.inr (Or.inl ⟨hp, cl, cd, g3, Or.inl ⟨h5, rfl, rfl⟩⟩))⟩, ?_, ?_, ?_, fun _ => ?_⟩
          · rw [mi_setI_i, if_neg (by omega)]; exact g4
          · rw [mi_setI_i, if_pos ⟨rfl, rfl⟩]; rfl
          · rw [mi_setI_i, if_neg (by omega)]; exact g5
          · rw [mi_setI_i, if_neg (by omega), g6, show min (e - p) 5 = e - p by omega]
        · rw [body, if_pos (by rw [le_i, nI_toInt (by omega)]; simp only [Int32.reduceToInt]; omega)]
          refine ⟨_, 1, p, 0, e, rfl, wD.tr (NW_I 46 _ (Or.inr (Or.inl rfl))), ⟨a3, Or.inr (Or.inr (Or.inl ⟨hp, cl, cd, g3, Or.inr ⟨by omega, rfl, rfl⟩⟩))⟩, ?_, ?_, ?_, fun z => by omega⟩
          · rw [mi_setI_i, if_neg (by omega)]; exact g4
          · rw [mi_setI_i, if_pos ⟨rfl, rfl⟩]; rfl
          · rw [mi_setI_i, if_neg (by omega)]; exact g5
      | false =>
        obtain ⟨C, hC⟩ : ∃ C, C = setI B mb 45 (nI (p + 1)) := ⟨_, rfl⟩
        have wC : NW mb T C := wB.tr (by rw [hC]; exact NW_I 45 _ (Or.inl rfl))
        have mC := m.sw wC.1
        refine ⟨setI C mb 46 (nI (mc (sgn (tb p)))), sgn (tb p), p, 0, p + 1, ?_, wC.tr (NW_I 46 _ (Or.inr (Or.inl rfl))), ⟨a3, Or.inr (Or.inr (Or.inr ⟨hp, cl, cd, rfl, rfl, rfl⟩))⟩, ?_, ?_, ?_, fun z => ?_⟩
        · unfold f_X12_next0
          refine (bnd a1).trans ?_
          simp only [mI mA, a4, mP mA, Option.bind_some, ← hB, mI mB, b45, mV mB, M_see mB bB pn, if_pos hp, ck.1, ck.2.1, cl, cd, mP mB, nI_1, ← hC]
          rw [if_neg n1, if_neg (show ¬ (false = true) by decide), if_pos rfl, if_pos rfl]
          exact M_sign mC hk
        · rw [mi_setI_i, if_neg (by omega), hC, mi_setI_i, if_pos ⟨rfl, rfl⟩]
        · rw [mi_setI_i, if_pos ⟨rfl, rfl⟩]
        · rw [mi_setI_i, if_neg (by omega), hC, mi_setI_i, if_neg (by omega)]; exact b47
        · exfalso
          revert z
          unfold sgn
          repeat' split
          all_goals omega
  · have e0 : p = n := by omega
    refine ⟨setI B mb 46 0, 0, p, 0, n, ?_, wB.tr (NW_I 46 _ (Or.inr (Or.inl rfl))), ⟨a3, Or.inl ⟨e0, rfl, rfl, rfl⟩⟩, ?_, ?_, ?_, fun z => by omega⟩
    · unfold f_X12_next0
      refine (bnd a1).trans ?_
      simp only [mI mA, a4, mP mA, Option.bind_some, ← hB, mI mB, b45, mV mB, M_see mB bB pn, if_neg hp, mP mB, if_true]
    · rw [mi_setI_i, if_neg (by omega), b45, e0]
    · rw [mi_setI_i, if_pos ⟨rfl, rfl⟩]; rfl
    · rw [mi_setI_i, if_neg (by omega)]; exact b47
