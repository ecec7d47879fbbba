section Tkd
variable {mb s n c d : Nat} {tb : Nat → Nat} {ts : List Tk} {T T' U : St} {x : LawV} {x3 : Int32} {PL : List PLn} {w : LnR} {W : List LnR} {L : List Sps}
theorem M_rF (m : MOK T mb) (x : Int32) : ∃ T', f_X12_reads_59 T mb x 0 = some (-1, T') ∧ SW (fun z => z = mb) T T' ∧ (∀ f, f ≠ 44 → f ≠ 51 → f ≠ 54 → mi T' mb f = mi T mb f) ∧ mi T' mb 44 = 0 ∧ mi T' mb 51 = mi T mb 49 ∧ mi T' mb 54 = mi T mb 50 := by
  obtain ⟨A, hA⟩ : ∃ A, A = setI T mb 44 0 := ⟨_, rfl⟩
  have wA : SW (fun z => z = mb) T A := by rw [hA]; exact SW_I _ _ rfl
  have mA := m.sw wA
  have a49 : mi A mb 49 = mi T mb 49 := by rw [hA, mi_setI_i, if_neg (by omega)]
  obtain ⟨B, hB⟩ : ∃ B, B = setI A mb 51 (mi T mb 49) := ⟨_, rfl⟩
  have wB : SW (fun z => z = mb) A B := by rw [hB]; exact SW_I _ _ rfl
  have mB := mA.sw wB
  have b50 : mi B mb 50 = mi T mb 50 := by rw [hB, mi_setI_i, if_neg (by omega), hA, mi_setI_i, if_neg (by omega)]
  refine ⟨setI B mb 54 (mi T mb 50), ?_, (wA.tr wB).tr (SW_I _ _ rfl), fun f h1 h2 h3 => ?_, ?_, ?_, ?_⟩
  · unfold f_X12_reads_59 f_X12_reads_85
    simp only [mP m, Option.bind_some, ← hA, mI mA, a49, mP mA, ← hB, if_true, mI mB, b50, mP mB]
  · rw [mi_setI_i, if_neg (by omega), hB, mi_setI_i, if_neg (by omega), hA, mi_setI_i, if_neg (by omega)]
  · rw [mi_setI_i, if_neg (by omega), hB, mi_setI_i, if_neg (by omega), hA, mi_setI_i, if_pos ⟨rfl, rfl⟩]
  · rw [mi_setI_i, if_neg (by omega), hB, mi_setI_i, if_pos ⟨rfl, rfl⟩]
  · rw [mi_setI_i, if_pos ⟨rfl, rfl⟩]
def PRm (mb z : Nat) : Prop := z = mb ∨ PTk mb z
theorem M_rO (hs : s < 4) (hm : PMr mb tb n ts T c d (stW W)) (hF : FW mb T W) (h42 : mi T mb 42 = nI W.length) (hok : ∀ w ∈ W, okW w) (h24 : W.length ≤ 24) (h610 : (stW W).length ≤ 610) : ∃ T' x3, f_X12_reads_59 T mb (nI s) 1 = some (nI W.length, T') ∧ SW (PRm mb) T T' ∧ (∀ f, f ≠ 44 → f ≠ 51 → f ≠ 54 → mi T' mb f = mi T mb f) ∧ mi T' mb 44 = 0 ∧ mi T' mb 51 = 0 ∧ mi T' mb 54 = -1 ∧ (∀ o, 20 ≤ o → o ≤ 29 → ∀ j, (j < rbk o * s ∨ rbk o * s + rbk o ≤ j) → mi T' (mb + o) j = mi T (mb + o) j) ∧ TV mb s T' (W.foldl stepL lw0) x3 ∧ PM (Mi T' mb) s (plW W) := by
  have m := hm.1.1
  have q3 : ¬ ((1 : Int32) = 0) := by decide
  obtain ⟨A, hA⟩ : ∃ A, A = setI T mb 44 0 := ⟨_, rfl⟩
  have wA : SW (fun z => z = mb) T A := by rw [hA]; exact SW_I _ _ rfl
  have mA := m.sw wA
  have a49 : mi A mb 49 = 0 := by rw [hA, mi_setI_i, if_neg (by omega)]; exact hm.2.2.2.2.2.2.2.1
  obtain ⟨B, hB⟩ : ∃ B, B = setI A mb 51 0 := ⟨_, rfl⟩
  have wB : SW (fun z => z = mb) A B := by rw [hB]; exact SW_I _ _ rfl
  have mB := mA.sw wB
  obtain ⟨D, hD⟩ : ∃ D, D = setI B mb 54 (-1) := ⟨_, rfl⟩
  have wD : SW (fun z => z = mb) B D := by rw [hD]; exact SW_I _ _ rfl
  have mD := mB.sw wD
  have w3 := (wA.tr wB).tr wD
  have fD : ∀ f, f ≠ 44 → f ≠ 51 → f ≠ 54 → mi D mb f = mi T mb f := fun f h1 h2 h3 => by rw [hD, mi_setI_i, if_neg (by omega), hB, mi_setI_i, if_neg (by omega), hA, mi_setI_i, if_neg (by omega)]
  have d44 : mi D mb 44 = 0 := by rw [hD, mi_setI_i, if_neg (by omega), hB, mi_setI_i, if_neg (by omega), hA, mi_setI_i, if_pos ⟨rfl, rfl⟩]
  have d51 : mi D mb 51 = 0 := by rw [hD, mi_setI_i, if_neg (by omega), hB, mi_setI_i, if_pos ⟨rfl, rfl⟩]
  have d54 : mi D mb 54 = -1 := by rw [hD, mi_setI_i, if_pos ⟨rfl, rfl⟩]
  obtain ⟨E, c1, c2, c3, c4, c5⟩ := M_clears (s := s) mD hs
  have tE : TW mb s D E := by
    refine ⟨c2.mono (fun z hz => by unfold PCl at hz; unfold PTk; omega), fun o h1 h2 j hj => ?_⟩
    by_cases e20 : o = 20
    · subst e20
      have hj' : j < 4 * s ∨ 4 * s + 4 ≤ j := hj
      rw [c4 j, if_neg (by omega)]
    · by_cases e26 : o ≤ 26
      · have : rbk o = 1 := by
          have : o = 21 ∨ o = 22 ∨ o = 23 ∨ o = 24 ∨ o = 25 ∨ o = 26 := by omega
          rcases this with z | z | z | z | z | z <;> rw [z] <;> rfl
        rw [this] at hj
        rw [c5 o (by omega) e26 j, if_neg (by omega)]
      · rw [(c2.2.2.2 (mb + o) (by unfold PCl; omega)).1]
  have mE := mD.sw tE.1
  have eE : mi E mb = mi D mb := tE.r0
  have FE : FW mb E W := by
    refine FW.tw (s := s) ?_ tE
    intro i hi
    obtain ⟨a1, a2, a3, a4⟩ := hF i hi
    have ro : ∀ o, 1 ≤ o → mi D (mb + o) = mi T (mb + o) := fun o ho => (w3.2.2.2 (mb + o) (by omega)).1
    exact ⟨by rw [ro _ (by omega)]; exact a1, fun z => by rw [ro _ (by omega)]; exact a2 z, fun z => by rw [ro _ (by omega)]; exact a3 z, fun z => ⟨by rw [ro _ (by omega)]; exact (a4 z).1, by rw [ro _ (by omega)]; exact (a4 z).2⟩⟩
  have tv0 : TV mb s E ((W.take 0).foldl stepL lw0) 1 := by
    refine ⟨fun k hk => ?_, Or.inl ⟨rfl, rfl, ?_⟩, ?_, ?_, ?_, ?_⟩
    · rw [c4, if_pos (by omega)]; rfl
    · rw [c5 21 (by omega) (by omega), if_pos rfl]; rfl
    · rw [c5 22 (by omega) (by omega), if_pos rfl]; rfl
    · rw [c5 23 (by omega) (by omega), if_pos rfl]; rfl
    · rw [c5 24 (by omega) (by omega), if_pos rfl]; rfl
    · rw [c5 25 (by omega) (by omega), if_pos rfl]; rfl
  have tp0 : TP mb s E (plW (W.take 0)) := ⟨by rw [c5 26 (by omega) (by omega), if_pos rfl]; rfl, fun i hi => by cases hi⟩
  obtain ⟨G, x3, g1, g2, g3, g4⟩ := M_104 hs hok h24 W.length 0 FU E 1 (by omega) (by unfold FU; omega) mE (by rw [eE, fD _ (by omega) (by omega) (by omega)]; exact h42) FE tv0 tp0
  have mG := mE.sw g2.1
  have eG : mi G mb = mi D mb := by rw [g2.r0, eE]
  have G43 : mi G mb 43 = nI (stW W).length := by rw [eG, fD _ (by omega) (by omega) (by omega)]; exact hm.2.2.2.2.2.2.1
  have pl24 := pl_len W
  have g26 : ldI G (some (mb + 26)) 15 (nI s) = some (nI (plW W).length) := by rw [mL_proofs mG hs, g4.1]
  have ix : (25 : Int32) * nI s + nI (plW W).length = nI (25 * s + (plW W).length) := ix4 25 s _
  obtain ⟨H, hH⟩ : ∃ H, H = setI G (mb + 27) (25 * s + (plW W).length) (nI (stW W).length) := ⟨_, rfl⟩
  have tH : TW mb s G H := by rw [hH]; exact TW_I (by omega) (by omega) (by show 25 * s ≤ _ ∧ _ < 25 * s + 25; omega) _
  have mH := mG.sw tH.1
  have eH : mi H mb = mi D mb := by rw [tH.r0, eG]
  obtain ⟨T', k1, k2, k3, k4⟩ := M_195 (mb := mb) hs (K := (stW W).length) h610 (2 * (stW W).length) 0 FU H (by omega) (by unfold FU; omega) mH (by rw [tH.r0]; exact G43) (fun j hj => by omega)
  have tw := ((tE.tr g2).tr tH).tr k3
  have eT : mi T' mb = mi D mb := by rw [k3.r0, eH]
  have ro : ∀ o, o ≠ 29 → mi T' (mb + o) = mi H (mb + o) := fun o ho => (k2.2.2.2 (mb + o) (by omega)).1
  have sw1 : SW (PRm mb) T T' := (w3.mono (fun z hz => Or.inl hz)).tr (tw.1.mono (fun z hz => Or.inr hz))
  refine ⟨T', x3, ?_, sw1, fun f h1 h2 h3 => by rw [eT]; exact fD f h1 h2 h3, by rw [eT]; exact d44, by rw [eT]; exact d51, by rw [eT]; exact d54, fun o h1 h2 j hj => ?_, ?_, ?_⟩
  · unfold f_X12_reads_59 f_X12_reads_85
    simp only [mP m, Option.bind_some, ← hA, mI mA, a49, mP mA, ← hB, if_neg q3, mP mB, ← hD, mV mD, c1]
    refine (bnd g1).trans ?_
    simp only [mR_from mG, mR_proofs mG, g26, Option.bind_some, mI mG, G43, ix, mS_from mG (show 25 * s + (plW W).length < 100 by omega), nrw15, ← hH]
    rw [nI_0] at k1
    rw [k1, eH, fD _ (by omega) (by omega) (by omega), h42]
  · rw [tw.2 o h1 h2 j hj, (w3.2.2.2 (mb + o) (by omega)).1]
  · obtain ⟨t1, t2, t3, t4, t5, t6⟩ := g3
    have r2 : ∀ o, o ≠ 27 → o ≠ 29 → ∀ j, mi T' (mb + o) j = mi G (mb + o) j := fun o h1 h2 j => by rw [ro o h2, hH, mi_setI_i, if_neg (by omega)]
    exact ⟨fun k hk => by rw [r2 _ (by omega) (by omega)]; exact t1 k hk, by rw [r2 _ (by omega) (by omega)]; exact t2, by rw [r2 _ (by omega) (by omega)]; exact t3, by rw [r2 _ (by omega) (by omega)]; exact t4, by rw [r2 _ (by omega) (by omega)]; exact t5, by rw [r2 _ (by omega) (by omega)]; exact t6⟩
  · have ast : allS (plW W) = stW W := plW_st hok
    refine ⟨?_, by omega, by rw [ast]; exact h610, fun i hi => ⟨?_, ?_⟩, ?_, fun j hj => ?_⟩
    · show mi T' (mb + 26) s = _
      rw [ro _ (by omega), hH, mi_setI_i, if_neg (by omega)]; exact g4.1
    · show mi T' (mb + 27) (25 * s + i) = _
      rw [ro _ (by omega), hH, mi_setI_i, if_neg (by omega)]; exact (g4.2 i hi).1
    · show mi T' (mb + 28) (24 * s + i) = _
      rw [ro _ (by omega), hH, mi_setI_i, if_neg (by omega)]; exact (g4.2 i hi).2
    · show mi T' (mb + 27) (25 * s + (plW W).length) = _
      rw [ro _ (by omega), hH, mi_setI_i, if_pos ⟨rfl, rfl⟩, ast]
    · rw [ast] at hj ⊢
      have r35 : mi H (mb + 35) = mi T (mb + 35) := by rw [tH.ro (by omega), g2.ro (by omega), tE.ro (by omega), (w3.2.2.2 (mb + 35) (by omega)).1]
      obtain ⟨y1, y2⟩ := hm.2.2.2.2.2.2.2.2.2 j hj
      constructor
      · show mi T' (mb + 29) (1220 * s + 2 * j) = _
        rw [k4 (2 * j) (by omega), r35]; exact y1
      · show mi T' (mb + 29) (1220 * s + (2 * j + 1)) = _
        rw [k4 (2 * j + 1) (by omega), r35]; exact y2
/-- the reference begins -/
theorem M_beg (k : RKm mb tb n ts T) : ∃ A T', A = setI (setI (setI (setI T mb 49 0) mb 45 0) mb 42 0) mb 43 0 ∧ f_X12_next0 A mb = some T' ∧ rcv A (some mb) 13 = some mb ∧ RWo mb T T' ∧ (∃ d, PMr mb tb n ts T' 0 d []) ∧ mi T' mb 42 = 0 := by
  obtain ⟨A, hA⟩ : ∃ A, A = setI (setI (setI (setI T mb 49 0) mb 45 0) mb 42 0) mb 43 0 := ⟨_, rfl⟩
  have wA : SW (fun z => z = mb) T A := by rw [hA]; exact ((((SW_I (P := fun z => z = mb) 49 _ rfl).tr (SW_I 45 _ rfl)).tr (SW_I 42 _ rfl)).tr (SW_I 43 _ rfl))
  have fA : ∀ f, f ≠ 49 → f ≠ 45 → f ≠ 42 → f ≠ 43 → mi A mb f = mi T mb f := fun f h1 h2 h3 h4 => by rw [hA, mi_setI_i, if_neg (by omega), mi_setI_i, if_neg (by omega), mi_setI_i, if_neg (by omega), mi_setI_i, if_neg (by omega)]
  have a42 : mi A mb 42 = 0 := by rw [hA, mi_setI_i, if_neg (by omega), mi_setI_i, if_pos ⟨rfl, rfl⟩]
  have a43 : mi A mb 43 = 0 := by rw [hA, mi_setI_i, if_pos ⟨rfl, rfl⟩]
  have a45 : mi A mb 45 = nI 0 := by rw [hA, mi_setI_i, if_neg (by omega), mi_setI_i, if_neg (by omega), mi_setI_i, if_pos ⟨rfl, rfl⟩]; rfl
  have a49 : mi A mb 49 = 0 := by rw [hA, mi_setI_i, if_neg (by omega), mi_setI_i, if_neg (by omega), mi_setI_i, if_neg (by omega), mi_setI_i, if_pos ⟨rfl, rfl⟩]
  have kA : RKm mb tb n ts A := k.sw (wA.mono (fun z hz => Or.inl hz)) (fA 44 (by omega) (by omega) (by omega) (by omega))
  obtain ⟨T', s, p, v, e, g1, g2, g3, g4, g5, g6, g7⟩ := M_next0 kA.1 kA.2.1 kA.2.2.1 (Nat.zero_le n) a45
  obtain ⟨⟨s', p', v', e', h1, h2, h3⟩, -⟩ := TKS_ix ts 0 k.2.2.2.1
  obtain ⟨e1, e2, e3, e4⟩ := TOK_un g3 h1
  have w := g2.rw
  obtain ⟨d, hd⟩ := nI_any (mi T' mb 52)
  have ow : RWo mb T A := ⟨wA.mono (fun z hz => Or.inl hz), fun f hf => fA f (by omega) (by omega) (by omega) (by omega)⟩
  refine ⟨A, T', hA, g1, mV kA.1, ow.tr (w.wl (x := 0)).o, ⟨d, kA.rw w, h3, ?_, ?_, ?_, fun z => ?_, ?_, ?_, hd, fun j hj => by cases hj⟩, ?_⟩
  · rw [h2, g4, e4]
  · rw [h2, g5, e1]
  · rw [h2, g6, e2]
  · rw [h2] at z ⊢
    rw [g7 (by rw [e1]; exact z), e3]
  · rw [g2.2 43 (by omega) (by omega) (by omega) (by omega), a43]; rfl
  · rw [g2.2 49 (by omega) (by omega) (by omega) (by omega), a49]
  · rw [g2.2 42 (by omega) (by omega) (by omega) (by omega), a42]
end Tkd
