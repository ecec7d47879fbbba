section Asked3
variable {xb np a p s : Nat} {M : MI} {L : ML} {H : Nat → Bool} {PL : List PLn}
theorem M_asked {T : St} (m : MOK T (xb + 22)) (hM : ∀ o, o < 60 → Mi T (xb + 22) o = M o) (h42 : ml T (xb + 22 + 42) a = L 42 a) (hpar : PAR M np) (n24 : np ≤ 24) (hH : HL M np H) (h02 : M 0 2 = nI np) (ha : a < 40) (hp : p < np) (h12 : M 12 a = nI p) (hs : s < 4) (h39 : M 39 a = nI s) (hP : PM M s PL) (hW : ∀ q ∈ PL, PW q) : ∃ T', f_X12_asked T (xb + 22) (nI a) = some (lnsV (askV M L H np a p) PL PL.length, T') ∧ SW (PA xb) T T' := by
  have p24 : p < 24 := by omega
  have n38 : PA xb (xb + 22 + 38) := Or.inr (Or.inr rfl)
  have rw_ : ∀ U, SW (PA xb) T U → ∀ o, o < 60 → o ≠ 38 → o ≠ 37 → o < 46 ∨ 48 < o → Mi U (xb + 22) o = M o := fun U w o h1 h2 h3 h4 => ((w.2.2.2 (xb + 22 + o) (by unfold PA P3; omega)).1).trans (hM o h1)
  have ft : ∀ U, SW (PA xb) T U → MOK U (xb + 22) ∧ mi U (xb + 22) 0 = M 0 0 ∧ mi U (xb + 22 + 40) a = M 40 a ∧ mi U (xb + 22 + 11) a = M 11 a ∧ mi U (xb + 22 + 12) a = nI p ∧ mi U (xb + 22 + 9) p = M 9 p ∧ mi U (xb + 22) 2 = nI np := by
    intro U w
    have r := rw_ U w
    exact ⟨m.sw w, congrFun (r 0 (by omega) (by omega) (by omega) (by omega)) 0, congrFun (r 40 (by omega) (by omega) (by omega) (by omega)) a, congrFun (r 11 (by omega) (by omega) (by omega) (by omega)) a, (congrFun (r 12 (by omega) (by omega) (by omega) (by omega)) a).trans h12, congrFun (r 9 (by omega) (by omega) (by omega) (by omega)) p, (congrFun (r 0 (by omega) (by omega) (by omega) (by omega)) 2).trans h02⟩
  obtain ⟨V, hV⟩ : ∃ V, V = askV M L H np a p := ⟨_, rfl⟩
  have V1 : V 1 = if (0 : Int32) < lg_cmp (L 42 a) 2147483647 then 2147483647 else Int64.toInt32 (L 42 a) := by rw [hV]; rfl
  have V2 : V 2 = (M 0 0 - M 40 a) / 360 := by rw [hV]; rfl
  have V3 : V 3 = M 11 a := by rw [hV]; rfl
  have V4 : V 4 = hrs M H np p := by rw [hV]; rfl
  rw [← hV]
  clear hV
  have st : ∀ U, MOK U (xb + 22) → ∀ v, stI U (some (xb + 22 + 38)) 15 1 v = some (setI U (xb + 22 + 38) 1 v) ∧ stI U (some (xb + 22 + 38)) 15 2 v = some (setI U (xb + 22 + 38) 2 v) ∧ stI U (some (xb + 22 + 38)) 15 3 v = some (setI U (xb + 22 + 38) 3 v) ∧ stI U (some (xb + 22 + 38)) 15 4 v = some (setI U (xb + 22 + 38) 4 v) := fun U mU v => ⟨mS_facts mU (j := 1) (by omega) v, mS_facts mU (j := 2) (by omega) v, mS_facts mU (j := 3) (by omega) v, mS_facts mU (j := 4) (by omega) v⟩
  have h38 : ∃ T', f_X12_asked_38 T (xb + 22) (nI a) (nI s) (V 1) 1 (some (xb + 22 + 38)) = some (lnsV V PL PL.length, T') ∧ SW (PA xb) T T' := by
    unfold f_X12_asked_38
    rw [(st T m (V 1)).1]
    simp only [Option.bind_some]
    obtain ⟨A, hA⟩ : ∃ A, A = setI T (xb + 22 + 38) 1 (V 1) := ⟨_, rfl⟩
    rw [← hA]
    have wA : SW (PA xb) T A := by rw [hA]; exact SW_I _ _ n38
    obtain ⟨mA, fA0, fA40, -, -, -, -⟩ := ft A wA
    simp only [mR_facts mA, mI mA, fA0, mR_heldOn mA, mL_heldOn mA ha, fA40, Option.bind_some, divI, if_neg (show ¬ ((360 : Int32) = 0) by decide)]
    rw [← V2, (st A mA (V 2)).2.1]
    simp only [Option.bind_some]
    obtain ⟨B, hB⟩ : ∃ B, B = setI A (xb + 22 + 38) 2 (V 2) := ⟨_, rfl⟩
    rw [← hB]
    have wB : SW (PA xb) T B := wA.tr (by rw [hB]; exact SW_I _ _ n38)
    obtain ⟨mB, -, -, fB11, -, -, -⟩ := ft B wB
    simp only [mR_facts mB, mR_accountKind mB, mL_accountKind mB ha, fB11, Option.bind_some]
    rw [← V3, (st B mB (V 3)).2.2.1]
    simp only [Option.bind_some]
    obtain ⟨C, hC⟩ : ∃ C, C = setI B (xb + 22 + 38) 3 (V 3) := ⟨_, rfl⟩
    rw [← hC]
    have wC : SW (PA xb) T C := wB.tr (by rw [hC]; exact SW_I _ _ n38)
    obtain ⟨mC, -, -, -, fC12, fC9, fC2⟩ := ft C wC
    have g1 : mi C (xb + 22 + 38) 1 = V 1 := by rw [hC, mi_setI_i, if_neg (by omega), hB, mi_setI_i, if_neg (by omega), hA, mi_setI_i, if_pos ⟨rfl, rfl⟩]
    have g2 : mi C (xb + 22 + 38) 2 = V 2 := by rw [hC, mi_setI_i, if_neg (by omega), hB, mi_setI_i, if_pos ⟨rfl, rfl⟩]
    have g3 : mi C (xb + 22 + 38) 3 = V 3 := by rw [hC, mi_setI_i, if_pos ⟨rfl, rfl⟩]
    clear hA hB hC
    simp only [mR_facts mC, mR_died mC, mR_owner mC, mL_owner mC ha, fC12, mL_died mC p24, fC9, Option.bind_some]
    have h106 : ∀ D, SW (P3 xb) C D → ∃ T', f_X12_asked_106 D (xb + 22) (nI s) (V 4) 4 (some (xb + 22 + 38)) = some (lnsV V PL PL.length, T') ∧ SW (PA xb) T T' := by
      intro D wD
      have wD' : SW (PA xb) T D := wC.tr (wD.mono (fun _ h => Or.inl h))
      have dO : ∀ k, mi D (xb + 22 + 38) k = mi C (xb + 22 + 38) k := fun k => by rw [(wD.2.2.2 (xb + 22 + 38) (by unfold P3; omega)).1]
      unfold f_X12_asked_106
      rw [(st D (m.sw wD') (V 4)).2.2.2]
      simp only [Option.bind_some]
      obtain ⟨E, hE⟩ : ∃ E, E = setI D (xb + 22 + 38) 4 (V 4) := ⟨_, rfl⟩
      rw [← hE]
      have wE : SW (PA xb) T E := wD'.tr (by rw [hE]; exact SW_I _ _ n38)
      have e4 : mi E (xb + 22 + 38) 4 = V 4 := by rw [hE, mi_setI_i, if_pos ⟨rfl, rfl⟩]
      have eO : ∀ k, k ≠ 4 → mi E (xb + 22 + 38) k = mi C (xb + 22 + 38) k := fun k hk => by rw [hE, mi_setI_i, if_neg (by omega)]; exact dO k
      clear hE
      have r := rw_ E wE
      obtain ⟨G, z1, z2⟩ := M_a112 (V := V) (M := Mi E (xb + 22)) hs (hP.go (r 26 (by omega) (by omega) (by omega) (by omega)) (r 27 (by omega) (by omega) (by omega) (by omega)) (r 28 (by omega) (by omega) (by omega) (by omega)) (r 29 (by omega) (by omega) (by omega) (by omega))) hW PL.length 0 FU E (by omega) (by have := hP.2.1; unfold FU; omega) (m.sw wE) (fun o _ _ => rfl) (fun k h5 h1 => by
        show mi E (xb + 22 + 38) k = V k
        have : k = 1 ∨ k = 2 ∨ k = 3 ∨ k = 4 := by omega
        rcases this with rfl | rfl | rfl | rfl
        · exact (eO 1 (by omega)).trans g1
        · exact (eO 2 (by omega)).trans g2
        · exact (eO 3 (by omega)).trans g3
        · exact e4)
      rw [nI_0] at z1
      exact ⟨G, z1, wE.tr (z2.mono (fun _ h => Or.inr (Or.inl h)))⟩
    unfold hrs at V4
    by_cases d : M 9 p = -1
    · rw [if_pos d]
      rw [if_pos d] at V4
      rw [← V4]
      exact h106 C (SW.rf _ _)
    · rw [if_neg d]
      rw [if_neg d] at V4
      have r := rw_ C wC
      obtain ⟨D, d1, d2⟩ := M_heirsOf (p := p) hpar n24 hH hp mC fC2 (fun c hc => ⟨congrFun (r 8 (by omega) (by omega) (by omega) (by omega)) c, congrFun (r 9 (by omega) (by omega) (by omega) (by omega)) c⟩)
      simp only [mV mC, d1, Option.bind_some]
      rw [← V4]
      exact h106 D d2
  have e39 : mi T (xb + 22 + 39) a = nI s := (congrFun (hM 39 (by omega)) a).trans h39
  unfold f_X12_asked
  simp only [mR_heldBy m, mL_heldBy m ha, e39, mR_facts m, mR_held m, mL_held m ha, h42, Option.bind_some]
  by_cases c : (0 : Int32) < lg_cmp (L 42 a) 2147483647
  · rw [if_pos c] at V1
    rw [if_neg (Int32.not_le.mpr c), ← V1]
    exact h38
  · rw [if_neg c] at V1
    rw [if_pos (Int32.not_lt.mp c), ← V1]
    exact h38
end Asked3
