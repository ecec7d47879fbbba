theorem TOK_un {tb : Nat → Nat} {n i s p v e s' p' v' e' : Nat} (h : TOK tb n i s p v e) (h' : TOK tb n i s' p' v' e') : s = s' ∧ p = p' ∧ v = v' ∧ e = e' := by
  obtain ⟨w, h⟩ := h
  obtain ⟨w', h'⟩ := h'
  have ep := WE_un w w'
  subst ep
  rcases h with ⟨a1, a2, a3, a4⟩ | ⟨a1, a2, a3, a4, a5⟩ | ⟨a1, a2, a3, a4, a5⟩ | ⟨a1, a2, a3, a4, a5, a6⟩ <;> rcases h' with ⟨b1, b2, b3, b4⟩ | ⟨b1, b2, b3, b4, b5⟩ | ⟨b1, b2, b3, b4, b5⟩ | ⟨b1, b2, b3, b4, b5, b6⟩
  · exact ⟨by omega, rfl, by omega, by omega⟩
  · omega
  · omega
  · omega
  · omega
  · have ee := WE_un a3 b3
    subst ee
    exact ⟨by rw [a4, b4], rfl, by omega, rfl⟩
  · rw [a2] at b2; cases b2
  · rw [a2] at b2; cases b2
  · omega
  · rw [a2] at b2; cases b2
  · have ee := WE_un a4 b4
    subst ee
    rcases a5 with ⟨c1, c2, c3⟩ | ⟨c1, c2, c3⟩ <;> rcases b5 with ⟨d1, d2, d3⟩ | ⟨d1, d2, d3⟩
    · exact ⟨by omega, rfl, by omega, rfl⟩
    · omega
    · omega
    · exact ⟨by omega, rfl, by omega, rfl⟩
  · rw [a3] at b3; cases b3
  · omega
  · rw [a2] at b2; cases b2
  · rw [a3] at b3; cases b3
  · exact ⟨by rw [a4, b4], rfl, by omega, by omega⟩
section Nxt2
variable {mb n p : Nat} {tb : Nat → Nat}
theorem M_n76 : ∀ (m i fu : Nat) (T : St), i + m = n → m < fu → p ≤ i → MOK T mb → LT0 T → BTm T mb tb n → mi T mb 45 = nI i → mi T mb 47 = nI p → (∀ j, p ≤ j → j < i → isL (tb j) = true) → ∃ e T', f_X12_next0_76 fu T mb = some T' ∧ NW mb T T' ∧ WE isL tb n p e ∧ mi T' mb 45 = nI e ∧ mi T' mb 46 = nI (mc (kw tb p e)) ∧ mi T' mb 47 = nI p ∧ mi T' mb 48 = mi T mb 48 := by
  intro m
  have fin : ∀ (i : Nat) (T : St), i ≤ n → p ≤ i → MOK T mb → LT0 T → BTm T mb tb n → mi T mb 45 = nI i → mi T mb 47 = nI p → (∀ j, p ≤ j → j < i → isL (tb j) = true) → (i < n → isL (tb i) = false) → ∃ e T', ((rcv T (some mb) 13).bind fun b105 => (f_X12_word T b105).bind fun v105 => (putI T (some mb) 13 46 v105).bind fun S108 => some S108) = some T' ∧ NW mb T T' ∧ WE isL tb n p e ∧ mi T' mb 45 = nI e ∧ mi T' mb 46 = nI (mc (kw tb p e)) ∧ mi T' mb 47 = nI p ∧ mi T' mb 48 = mi T mb 48 := by
    intro i T hi hp mT h0 hb h45 h47 hL hn
    simp only [mV mT, M_word mT h0 hb h47 h45 hp hi, mP mT, Option.bind_some]
    refine ⟨i, _, rfl, NW_I 46 _ (Or.inr (Or.inl rfl)), ⟨hp, hi, hL, hn⟩, ?_, ?_, ?_, ?_⟩
    · rw [mi_setI_i, if_neg (by omega)]; exact h45
    · rw [mi_setI_i, if_pos ⟨rfl, rfl⟩]
    · rw [mi_setI_i, if_neg (by omega)]; exact h47
    · rw [mi_setI_i, if_neg (by omega)]
  induction m with
  | zero =>
    intro i fu T e1 e2 hp mT h0 hb h45 h47 hL
    obtain ⟨fu, rfl⟩ : ∃ k, fu = k + 1 := ⟨fu - 1, by omega⟩
    unfold f_X12_next0_76
    simp only [mI mT, h45, mV mT, M_see mT hb (show i ≤ n by omega), if_neg (show ¬ i < n by omega), (ch_end T).1, Option.bind_some, if_true]
    have g := fin i T (by omega) hp mT h0 hb h45 h47 hL (fun h => by omega)
    simp only [mV mT, Option.bind_some] at g
    exact g
  | succ m ih =>
    intro i fu T e1 e2 hp mT h0 hb h45 h47 hL
    obtain ⟨fu, rfl⟩ : ∃ k, fu = k + 1 := ⟨fu - 1, by omega⟩
    have hi : i < n := by omega
    have ck := (ch_k (hb.2.2 i hi).2 T).2.2.2.2.1
    unfold f_X12_next0_76
    simp only [mI mT, h45, mV mT, M_see mT hb (show i ≤ n by omega), if_pos hi, ck, Option.bind_some]
    cases cl : isL (tb i) with
    | false =>
      rw [if_neg (show ¬ (false = true) by decide), if_pos rfl]
      have g := fin i T (by omega) hp mT h0 hb h45 h47 hL (fun _ => cl)
      simp only [mV mT, Option.bind_some] at g
      exact g
    | true =>
      rw [if_pos rfl, if_neg (by decide)]
      simp only [mP mT, nI_1, Option.bind_some]
      obtain ⟨A, hA⟩ : ∃ A, A = setI T mb 45 (nI (i + 1)) := ⟨_, rfl⟩
      rw [← hA]
      have wA : NW mb T A := by rw [hA]; exact NW_I 45 _ (Or.inl rfl)
      have a45 : mi A mb 45 = nI (i + 1) := by rw [hA, mi_setI_i, if_pos ⟨rfl, rfl⟩]
      have aO : ∀ f, f ≠ 45 → mi A mb f = mi T mb f := fun f hf => by rw [hA, mi_setI_i, if_neg (by omega)]
      obtain ⟨e, T', g1, g2, g3, g4, g5, g6, g7⟩ := ih (i + 1) fu A (by omega) (by omega) (by omega) (mT.sw wA.1) (h0.sw wA.1 mT.1) (wA.bt hb) a45 (by rw [aO 47 (by omega)]; exact h47) (fun j h1 h2 => by
        by_cases q : j = i
        · rw [q]; exact cl
        · exact hL j h1 (by omega))
      exact ⟨e, T', g1, wA.tr g2, g3, g4, g5, g6, by rw [g7, aO 48 (by omega)]⟩
theorem M_n126 : ∀ (m i fu : Nat) (T : St), i + m = n → m < fu → p ≤ i → MOK T mb → BTm T mb tb n → mi T mb 45 = nI i → mi T mb 47 = nI p → mi T mb 48 = nI (nv tb p (min (i - p) 5)) → (∀ j, p ≤ j → j < i → isD (tb j) = true) → ∃ e T', f_X12_next0_126 fu T mb = some (mb, T') ∧ NW mb T T' ∧ WE isD tb n p e ∧ mi T' mb 45 = nI e ∧ mi T' mb 47 = nI p ∧ mi T' mb 48 = nI (nv tb p (min (e - p) 5)) := by
  intro m
  induction m with
  | zero =>
    intro i fu T e1 e2 hp mT hb h45 h47 h48 hL
    obtain ⟨fu, rfl⟩ : ∃ k, fu = k + 1 := ⟨fu - 1, by omega⟩
    unfold f_X12_next0_126
    simp only [mI mT, h45, mV mT, M_see mT hb (show i ≤ n by omega), if_neg (show ¬ i < n by omega), (ch_end T).2, Option.bind_some, if_true]
    exact ⟨i, T, rfl, NW.rf _ _, ⟨hp, by omega, hL, fun h => by omega⟩, h45, h47, h48⟩
  | succ m ih =>
    intro i fu T e1 e2 hp mT hb h45 h47 h48 hL
    obtain ⟨fu, rfl⟩ : ∃ k, fu = k + 1 := ⟨fu - 1, by omega⟩
    have hi : i < n := by omega
    have h6 := hb.1
    have ck := (ch_k (hb.2.2 i hi).2 T).2.2.2.2.2.1
    have see := fun {U : St} (mU : MOK U mb) (bU : BTm U mb tb n) => M_see mU bU (show i ≤ n by omega)
    unfold f_X12_next0_126 f_X12_next0_176
    simp only [mI mT, h45, mV mT, M_see mT hb (show i ≤ n by omega), if_pos hi, ck, Option.bind_some, h47, h48]
    cases cd : isD (tb i) with
    | false =>
      rw [if_neg (show ¬ (false = true) by decide), if_pos rfl]
      exact ⟨i, T, rfl, NW.rf _ _, ⟨hp, by omega, hL, fun _ => cd⟩, h45, h47, h48⟩
    | true =>
      have hL' : ∀ j, p ≤ j → j < i + 1 → isD (tb j) = true := fun j h1 h2 => by
        by_cases q : j = i
        · rw [q]; exact cd
        · exact hL j h1 (by omega)
      rw [if_pos rfl, if_neg (by decide), show (5 : Int32) = nI 5 from rfl, nI_add]
      by_cases c5 : p + 5 ≤ i
      · rw [if_pos (nI_le c5 (by omega))]
        simp only [mP mT, nI_1, Option.bind_some]
        obtain ⟨A, hA⟩ : ∃ A, A = setI T mb 45 (nI (i + 1)) := ⟨_, rfl⟩
        rw [← hA]
        have wA : NW mb T A := by rw [hA]; exact NW_I 45 _ (Or.inl rfl)
        have a45 : mi A mb 45 = nI (i + 1) := by rw [hA, mi_setI_i, if_pos ⟨rfl, rfl⟩]
        have aO : ∀ f, f ≠ 45 → mi A mb f = mi T mb f := fun f hf => by rw [hA, mi_setI_i, if_neg (by omega)]
        obtain ⟨e, T', g1, g2, g3, g4, g5, g6⟩ := ih (i + 1) fu A (by omega) (by omega) (by omega) (mT.sw wA.1) (wA.bt hb) a45 (by rw [aO 47 (by omega)]; exact h47) (by rw [aO 48 (by omega), h48, show min (i - p) 5 = min (i + 1 - p) 5 by omega]) hL'
        exact ⟨e, T', g1, wA.tr g2, g3, g4, g5, g6⟩
      · rw [if_neg (nI_ge (by omega) (by omega))]
        have h48' : 48 ≤ tb i := by
          unfold isD at cd
          have := of_decide_eq_true cd
          omega
        have ev : (10 : Int32) * nI (nv tb p (min (i - p) 5)) + nI (tb i) - 48 = nI (nv tb p (min (i + 1 - p) 5)) := by
          rw [show min (i - p) 5 = i - p by omega, show min (i + 1 - p) 5 = (i - p) + 1 by omega]
          show _ = nI (10 * nv tb p (i - p) + (tb (p + (i - p)) - 48))
          rw [show p + (i - p) = i by omega, show (10 : Int32) = nI 10 from rfl, pk_mul, nI_add, show (48 : Int32) = nI 48 from rfl, pk_sub (by omega)]
          congr 1
          omega
        simp only [mP mT, ev, Option.bind_some]
        obtain ⟨A, hA⟩ : ∃ A, A = setI T mb 48 (nI (nv tb p (min (i + 1 - p) 5))) := ⟨_, rfl⟩
        rw [← hA]
        have wA : NW mb T A := by rw [hA]; exact NW_I 48 _ (Or.inr (Or.inr (Or.inr rfl)))
        have mA := mT.sw wA.1
        have aO : ∀ f, f ≠ 48 → mi A mb f = mi T mb f := fun f hf => by rw [hA, mi_setI_i, if_neg (by omega)]
        have a48 : mi A mb 48 = nI (nv tb p (min (i + 1 - p) 5)) := by rw [hA, mi_setI_i, if_pos ⟨rfl, rfl⟩]
        have a45 : mi A mb 45 = nI i := by rw [aO 45 (by omega)]; exact h45
        simp only [mI mA, a45, mP mA, nI_1, Option.bind_some]
        obtain ⟨B, hB⟩ : ∃ B, B = setI A mb 45 (nI (i + 1)) := ⟨_, rfl⟩
        rw [← hB]
        have wB : NW mb T B := wA.tr (by rw [hB]; exact NW_I 45 _ (Or.inl rfl))
        have b45 : mi B mb 45 = nI (i + 1) := by rw [hB, mi_setI_i, if_pos ⟨rfl, rfl⟩]
        have bO : ∀ f, f ≠ 45 → mi B mb f = mi A mb f := fun f hf => by rw [hB, mi_setI_i, if_neg (by omega)]
        obtain ⟨e, T', g1, g2, g3, g4, g5, g6⟩ := ih (i + 1) fu B (by omega) (by omega) (by omega) (mT.sw wB.1) (wB.bt hb) b45 (by rw [bO 47 (by omega), aO 47 (by omega)]; exact h47) (by rw [bO 48 (by omega)]; exact a48) hL'
        exact ⟨e, T', g1, wB.tr g2, g3, g4, g5, g6⟩
theorem M_sign {A : St} (mA : MOK A mb) {k : Nat} (hk : k < 256) : (if nI k = 59 then f_X12_next0_285 A mb (nI k) else (if nI k = 43 then f_X12_next0_285 A mb (nI k) else (if nI k = 45 then f_X12_next0_285 A mb (nI k) else (if nI k = 42 then f_X12_next0_285 A mb (nI k) else (if nI k = 47 then f_X12_next0_285 A mb (nI k) else (if nI k = 40 then f_X12_next0_285 A mb (nI k) else (if nI k = 41 then f_X12_next0_285 A mb (nI k) else (if nI k = 60 then f_X12_next0_285 A mb (nI k) else (if nI k = 61 then f_X12_next0_285 A mb (nI k) else (if nI k = 62 then f_X12_next0_285 A mb (nI k) else f_X12_next0_290 A mb (nI k) 0)))))))))) = some (setI A mb 46 (nI (mc (sgn k)))) := by
  have e1 : f_X12_next0_285 A mb (nI k) = some (setI A mb 46 (nI k)) := by
    unfold f_X12_next0_285 f_X12_next0_290 f_X12_next0_301
    rw [if_neg (by decide), mP mA]
    rfl
  have e0 : f_X12_next0_290 A mb (nI k) 0 = some (setI A mb 46 1) := by
    unfold f_X12_next0_290 f_X12_next0_301
    rw [if_pos rfl, mP mA]
    rfl
  rw [e1, e0]
  have q : ∀ c : Nat, c < 256 → (nI k = nI c ↔ k = c) := fun c hc => nI_eq (by omega) (by omega)
  have q59 : nI k = 59 ↔ k = 59 := q 59 (by omega)
  have q43 : nI k = 43 ↔ k = 43 := q 43 (by omega)
  have q45 : nI k = 45 ↔ k = 45 := q 45 (by omega)
  have q42 : nI k = 42 ↔ k = 42 := q 42 (by omega)
  have q47 : nI k = 47 ↔ k = 47 := q 47 (by omega)
  have q40 : nI k = 40 ↔ k = 40 := q 40 (by omega)
  have q41 : nI k = 41 ↔ k = 41 := q 41 (by omega)
  have q60 : nI k = 60 ↔ k = 60 := q 60 (by omega)
  have q61 : nI k = 61 ↔ k = 61 := q 61 (by omega)
  have q62 : nI k = 62 ↔ k = 62 := q 62 (by omega)
  by_cases c1 : k = 59
  · rw [if_pos (q59.mpr c1), c1]; rfl
  rw [if_neg (fun z => c1 (q59.mp z))]
  by_cases c2 : k = 43
  · rw [if_pos (q43.mpr c2), c2]; rfl
  rw [if_neg (fun z => c2 (q43.mp z))]
  by_cases c3 : k = 45
  · rw [if_pos (q45.mpr c3), c3]; rfl
  rw [if_neg (fun z => c3 (q45.mp z))]
  by_cases c4 : k = 42
  · rw [if_pos (q42.mpr c4), c4]; rfl
  rw [if_neg (fun z => c4 (q42.mp z))]
  by_cases c5 : k = 47
  · rw [if_pos (q47.mpr c5), c5]; rfl
  rw [if_neg (fun z => c5 (q47.mp z))]
  by_cases c6 : k = 40
  · rw [if_pos (q40.mpr c6), c6]; rfl
  rw [if_neg (fun z => c6 (q40.mp z))]
  by_cases c7 : k = 41
  · rw [if_pos (q41.mpr c7), c7]; rfl
  rw [if_neg (fun z => c7 (q41.mp z))]
  by_cases c8 : k = 60
  · rw [if_pos (q60.mpr c8), c8]; rfl
  rw [if_neg (fun z => c8 (q60.mp z))]
  by_cases c9 : k = 61
  · rw [if_pos (q61.mpr c9), c9]; rfl
  rw [if_neg (fun z => c9 (q61.mp z))]
  by_cases c0 : k = 62
  · rw [if_pos (q62.mpr c0), c0]; rfl
  rw [if_neg (fun z => c0 (q62.mp z))]
  have : sgn k = 1 := by
    unfold sgn
    rw [if_neg c6, if_neg c7, if_neg c4, if_neg c2, if_neg c3, if_neg c5, if_neg c1, if_neg c8, if_neg c9, if_neg c0]
  rw [this]
  rfl
end Nxt2
