def persM (M : MI) (np : Nat) (nm bo ho ma pr : Int32) : MI := up2 (up2 (up2 (up2 (up2 (up2 (up2 M 4 np nm) 5 np bo) 6 np ho) 7 np ma) 8 np pr) 9 np (-1)) 0 2 (nI (np + 1))
theorem persM_lt {M : MI} {np : Nat} {nm bo ho ma pr : Int32} {z o : Nat} (hz : z ≠ np) (ho' : o ≠ 0) : persM M np nm bo ho ma pr o z = M o z := by
  unfold persM
  rw [up2_ne _ ho']
  rw [up2_nk _ hz, up2_nk _ hz, up2_nk _ hz, up2_nk _ hz, up2_nk _ hz, up2_nk _ hz]
theorem persM_at {M : MI} {np : Nat} {nm bo ho ma pr : Int32} : persM M np nm bo ho ma pr 4 np = nm ∧ persM M np nm bo ho ma pr 5 np = bo ∧ persM M np nm bo ho ma pr 6 np = ho ∧ persM M np nm bo ho ma pr 7 np = ma ∧ persM M np nm bo ho ma pr 8 np = pr ∧ persM M np nm bo ho ma pr 9 np = -1 := by
  unfold persM
  refine ⟨?_, ?_, ?_, ?_, ?_, ?_⟩
  · rw [up2_ne _ (by decide), up2_ne _ (by decide), up2_ne _ (by decide), up2_ne _ (by decide), up2_ne _ (by decide), up2_ne _ (by decide), up2_eq]
  · rw [up2_ne _ (by decide), up2_ne _ (by decide), up2_ne _ (by decide), up2_ne _ (by decide), up2_ne _ (by decide), up2_eq]
  · rw [up2_ne _ (by decide), up2_ne _ (by decide), up2_ne _ (by decide), up2_ne _ (by decide), up2_eq]
  · rw [up2_ne _ (by decide), up2_ne _ (by decide), up2_ne _ (by decide), up2_eq]
  · rw [up2_ne _ (by decide), up2_ne _ (by decide), up2_eq]
  · rw [up2_ne _ (by decide), up2_eq]
theorem M_person58 {T : St} {xb np : Nat} (m : MOK T (xb + 22)) (h2 : mi T (xb + 22) 2 = nI np) (hn : np < 24) (nm bo ho ma pr : Int32) : ∃ T', f_X12_person_58 T (xb + 22) nm bo ho ma pr = some (nI np, T') ∧ SW (Pm xb) T T' ∧ Mi T' (xb + 22) = persM (Mi T (xb + 22)) np nm bo ho ma pr ∧ Ml T' (xb + 22) = Ml T (xb + 22) := by
  unfold f_X12_person_58
  have P0 : Pm xb (xb + 22) := ⟨by omega, by omega⟩
  simp only [mI m, h2, Option.bind_some]
  rw [if_neg (by rw [show (24 : Int32) = nI 24 from rfl, nI_eq (by omega) (by omega)]; omega)]
  simp only [mR_name m, mI m, h2, mS_name m hn, nrw15, Option.bind_some]
  obtain ⟨S1, s1⟩ : ∃ S1, S1 = setI T (xb + 22 + 4) np nm := ⟨_, rfl⟩
  rw [← s1]
  have m1 : MOK S1 (xb + 22) := by rw [s1]; exact m.si _ _ _
  have h1' : mi S1 (xb + 22) 2 = nI np := by rw [s1, mi_setI_i, if_neg (by omega), h2]
  have w1 : SW (Pm xb) T S1 := by rw [s1]; exact SW_I _ _ ⟨by omega, by omega⟩
  have i1 : Mi S1 (xb + 22) = up2 (Mi T (xb + 22)) 4 np nm := by rw [s1, Mi_setI]
  have y1 : Ml S1 (xb + 22) = Ml T (xb + 22) := by rw [s1, Ml_setI]
  clear s1
  simp only [mR_born m1, mI m1, h1', mS_born m1 hn, nrw15, Option.bind_some]
  obtain ⟨S2, s2⟩ : ∃ S2, S2 = setI S1 (xb + 22 + 5) np bo := ⟨_, rfl⟩
  rw [← s2]
  have m2 : MOK S2 (xb + 22) := by rw [s2]; exact m1.si _ _ _
  have h2' : mi S2 (xb + 22) 2 = nI np := by rw [s2, mi_setI_i, if_neg (by omega), h1']
  have w2 : SW (Pm xb) S1 S2 := by rw [s2]; exact SW_I _ _ ⟨by omega, by omega⟩
  have i2 : Mi S2 (xb + 22) = up2 (Mi S1 (xb + 22)) 5 np bo := by rw [s2, Mi_setI]
  have y2 : Ml S2 (xb + 22) = Ml S1 (xb + 22) := by rw [s2, Ml_setI]
  clear s2
  simp only [mR_home m2, mI m2, h2', mS_home m2 hn, nrw15, Option.bind_some]
  obtain ⟨S3, s3⟩ : ∃ S3, S3 = setI S2 (xb + 22 + 6) np ho := ⟨_, rfl⟩
  rw [← s3]
  have m3 : MOK S3 (xb + 22) := by rw [s3]; exact m2.si _ _ _
  have h3' : mi S3 (xb + 22) 2 = nI np := by rw [s3, mi_setI_i, if_neg (by omega), h2']
  have w3 : SW (Pm xb) S2 S3 := by rw [s3]; exact SW_I _ _ ⟨by omega, by omega⟩
  have i3 : Mi S3 (xb + 22) = up2 (Mi S2 (xb + 22)) 6 np ho := by rw [s3, Mi_setI]
  have y3 : Ml S3 (xb + 22) = Ml S2 (xb + 22) := by rw [s3, Ml_setI]
  clear s3
  simp only [mR_mark m3, mI m3, h3', mS_mark m3 hn, nrw15, Option.bind_some]
  obtain ⟨S4, s4⟩ : ∃ S4, S4 = setI S3 (xb + 22 + 7) np ma := ⟨_, rfl⟩
  rw [← s4]
  have m4 : MOK S4 (xb + 22) := by rw [s4]; exact m3.si _ _ _
  have h4' : mi S4 (xb + 22) 2 = nI np := by rw [s4, mi_setI_i, if_neg (by omega), h3']
  have w4 : SW (Pm xb) S3 S4 := by rw [s4]; exact SW_I _ _ ⟨by omega, by omega⟩
  have i4 : Mi S4 (xb + 22) = up2 (Mi S3 (xb + 22)) 7 np ma := by rw [s4, Mi_setI]
  have y4 : Ml S4 (xb + 22) = Ml S3 (xb + 22) := by rw [s4, Ml_setI]
  clear s4
  simp only [mR_parent m4, mI m4, h4', mS_parent m4 hn, nrw15, Option.bind_some]
  obtain ⟨S5, s5⟩ : ∃ S5, S5 = setI S4 (xb + 22 + 8) np pr := ⟨_, rfl⟩
  rw [← s5]
  have m5 : MOK S5 (xb + 22) := by rw [s5]; exact m4.si _ _ _
  have h5' : mi S5 (xb + 22) 2 = nI np := by rw [s5, mi_setI_i, if_neg (by omega), h4']
  have w5 : SW (Pm xb) S4 S5 := by rw [s5]; exact SW_I _ _ ⟨by omega, by omega⟩
  have i5 : Mi S5 (xb + 22) = up2 (Mi S4 (xb + 22)) 8 np pr := by rw [s5, Mi_setI]
  have y5 : Ml S5 (xb + 22) = Ml S4 (xb + 22) := by rw [s5, Ml_setI]
  clear s5
  simp only [mR_died m5, mI m5, h5', mS_died m5 hn, nrw15, Option.bind_some]
  obtain ⟨S6, s6⟩ : ∃ S6, S6 = setI S5 (xb + 22 + 9) np (-1) := ⟨_, rfl⟩
  rw [← s6]
  have m6 : MOK S6 (xb + 22) := by rw [s6]; exact m5.si _ _ _
  have h6' : mi S6 (xb + 22) 2 = nI np := by rw [s6, mi_setI_i, if_neg (by omega), h5']
  have w6 : SW (Pm xb) S5 S6 := by rw [s6]; exact SW_I _ _ ⟨by omega, by omega⟩
  have i6 : Mi S6 (xb + 22) = up2 (Mi S5 (xb + 22)) 9 np (-1) := by rw [s6, Mi_setI]
  have y6 : Ml S6 (xb + 22) = Ml S5 (xb + 22) := by rw [s6, Ml_setI]
  clear s6
  simp only [mI m6, h6', mP m6, Option.bind_some]
  rw [mI (m6.si _ _ _)]
  simp only [Option.bind_some]
  refine ⟨setI S6 (xb + 22) 2 (nI np + 1), ?_, ((((((w1.tr w2).tr w3).tr w4).tr w5).tr w6).tr (SW_I _ _ P0)), ?_, ?_⟩
  · rw [mi_setI_i, if_pos ⟨rfl, rfl⟩, nI_1, nI_pred]
  · rw [Mi_setI0, i6, i5, i4, i3, i2, i1, nI_1]; rfl
  · rw [Ml_setI, y6, y5, y4, y3, y2, y1]
abbrev pOK (np : Nat) (now nm bo ho ma pr : Int32) : Prop := np < 24 ∧ (0 ≤ nm.toInt ∧ nm.toInt ≤ 99) ∧ (-1 ≤ bo.toInt ∧ bo.toInt ≤ now.toInt) ∧ (-1 ≤ ho.toInt ∧ ho.toInt ≤ 3) ∧ (-1 ≤ ma.toInt ∧ ma.toInt ≤ 9999) ∧ (-1 ≤ pr.toInt ∧ pr.toInt < np)
theorem X_pers {S : St} {xb np : Nat} {pa : Nat → Nat} {v : Option Nat} (x : XOK S xb) (l : LI S (xb + 2) np pa) (hn : np ≤ 24) (h0 : 0 ≤ (mi S xb 0).toInt) (nm bo ho ma pr : Int32) (hv : f_X11_personAt S xb pr = some v) (hvn : v = none ↔ ¬ (0 ≤ pr.toInt ∧ pr.toInt < np)) : f_X11_person S xb nm bo ho ma pr = if pOK np (mi S xb 0) nm bo ho ma pr then f_X11_person_91 S xb nm bo ho ma 1 1 v 1 else some (-1, S) := by
  have tI := nI_toInt (n := np) (by omega)
  have eb : bo = -1 ↔ bo.toInt = -1 := eq_i bo (-1)
  have em : ma = -1 ↔ ma.toInt = -1 := eq_i ma (-1)
  have ep : pr = -1 ↔ pr.toInt = -1 := eq_i pr (-1)
  have n91 : ∀ a6 a7 t0, (a6 = 0 ∨ a7 = 0 ∨ t0 = 0 ∨ ¬ (-1 ≤ ho.toInt ∧ ho.toInt ≤ 3)) → f_X11_person_91 S xb nm bo ho ma a6 a7 v t0 = some (-1, S) := by
    intro a6 a7 t0 hh
    unfold f_X11_person_91
    simp only [X_isHome, Option.bind_some, i01]
    by_cases q1 : a6 = 0
    · rw [if_pos q1]
    · rw [if_neg q1]
      by_cases q2 : -1 ≤ ho.toInt ∧ ho.toInt ≤ 3
      · rw [if_neg (fun q => q q2)]
        by_cases q3 : a7 = 0
        · rw [if_pos q3]
        · rw [if_neg q3, if_pos]
          rcases hh with z | z | z | z
          · exact absurd z q1
          · exact absurd z q3
          · exact z
          · exact absurd q2 z
      · rw [if_pos q2]
  unfold f_X11_person f_X11_person_36 f_X11_person_41 f_X11_person_60 f_X11_person_65 f_X11_person_86
  simp only [xR_persons x, xV_persons x, L_size l, xV x, hv, X_isWithin, X_isPast x, i01, Option.bind_some, le_i, tI, Int32.reduceToInt, eb, em, ep, hvn]
  by_cases c1 : np < 24
  · rw [if_neg (by omega)]
    by_cases c2 : 0 ≤ nm.toInt ∧ nm.toInt < 100
    · rw [if_neg (fun q => q c2)]
      by_cases c3 : -1 ≤ bo.toInt ∧ bo.toInt ≤ (mi S xb 0).toInt
      · by_cases c4 : -1 ≤ ma.toInt ∧ ma.toInt ≤ 9999
        · by_cases c5 : -1 ≤ pr.toInt ∧ pr.toInt < np
          · by_cases c6 : -1 ≤ ho.toInt ∧ ho.toInt ≤ 3
            · rw [if_pos (show pOK np (mi S xb 0) nm bo ho ma pr from ⟨c1, by omega, c3, c6, c4, c5⟩)]
              repeat' split
              all_goals first | rfl | (exfalso; omega)
            · rw [if_neg (show ¬ pOK np (mi S xb 0) nm bo ho ma pr from fun q => c6 q.2.2.2.1)]
              repeat' split
              all_goals first | exact n91 _ _ _ (Or.inr (Or.inr (Or.inr c6))) | (exfalso; omega)
          · rw [if_neg (show ¬ pOK np (mi S xb 0) nm bo ho ma pr from fun q => c5 q.2.2.2.2.2)]
            repeat' split
            all_goals first | exact n91 _ _ _ (Or.inr (Or.inr (Or.inl rfl))) | (exfalso; omega)
        · rw [if_neg (show ¬ pOK np (mi S xb 0) nm bo ho ma pr from fun q => c4 q.2.2.2.2.1)]
          repeat' split
          all_goals first | exact n91 _ _ _ (Or.inr (Or.inl rfl)) | (exfalso; omega)
      · rw [if_neg (show ¬ pOK np (mi S xb 0) nm bo ho ma pr from fun q => c3 q.2.2.1)]
        repeat' split
        all_goals first | exact n91 _ _ _ (Or.inl rfl) | (exfalso; omega)
    · rw [if_pos c2, if_neg (show ¬ pOK np (mi S xb 0) nm bo ho ma pr from fun q => by have := q.2.1; omega)]
  · rw [if_pos (by omega), if_neg (show ¬ pOK np (mi S xb 0) nm bo ho ma pr from fun q => c1 q.1)]
theorem M_pers {T : St} {mb np : Nat} (m : MOK T mb) (h2 : mi T mb 2 = nI np) (hn : np ≤ 24) (nm bo ho ma pr : Int32) : f_X12_person T mb nm bo ho ma pr = if pOK np (mi T mb 0) nm bo ho ma pr then f_X12_person_58 T mb nm bo ho ma pr else some (-1, T) := by
  have ep : pr = -1 ↔ pr.toInt = -1 := eq_i pr (-1)
  have n58 : ¬ np < 24 → f_X12_person_58 T mb nm bo ho ma pr = some (-1, T) := fun hh => by
    unfold f_X12_person_58
    simp only [mI m, h2, Option.bind_some]
    rw [if_pos (by rw [show np = 24 by omega]; rfl)]
  have hP : f_X12_isPerson T mb pr = some (if 0 ≤ pr.toInt ∧ pr.toInt < np then 1 else 0) := by
    rcases ixc pr (n := np) (by omega) with ⟨i, hi, rfl⟩ | c
    · rw [M_isPerson m h2 (by omega) hi, if_pos (nI_rng hi (by omega))]
    · rw [M_isPerson_n m h2 (by omega) c, if_neg c]
  unfold f_X12_person
  simp only [mV m, mI m, M_isIn, hP, i01, Option.bind_some, Int32.reduceToInt, ep]
  by_cases c2 : 0 ≤ nm.toInt ∧ nm.toInt ≤ 99
  · rw [if_neg (fun q => q c2)]
    by_cases c3 : -1 ≤ bo.toInt ∧ bo.toInt ≤ (mi T mb 0).toInt
    · rw [if_neg (fun q => q c3)]
      by_cases c6 : -1 ≤ ho.toInt ∧ ho.toInt ≤ 3
      · rw [if_neg (fun q => q c6)]
        by_cases c4 : -1 ≤ ma.toInt ∧ ma.toInt ≤ 9999
        · rw [if_neg (fun q => q c4)]
          by_cases c1 : np < 24
          · by_cases c5 : -1 ≤ pr.toInt ∧ pr.toInt < np
            · rw [if_pos (show pOK np (mi T mb 0) nm bo ho ma pr from ⟨c1, c2, c3, c6, c4, c5⟩)]
              repeat' split
              all_goals first | rfl | (exfalso; omega)
            · rw [if_neg (show ¬ pOK np (mi T mb 0) nm bo ho ma pr from fun q => c5 q.2.2.2.2.2)]
              repeat' split
              all_goals first | rfl | (exfalso; omega)
          · rw [if_neg (show ¬ pOK np (mi T mb 0) nm bo ho ma pr from fun q => c1 q.1), n58 c1]
            repeat' split
            all_goals rfl
        · rw [if_pos c4, if_neg (show ¬ pOK np (mi T mb 0) nm bo ho ma pr from fun q => c4 q.2.2.2.2.1)]
      · rw [if_pos c6, if_neg (show ¬ pOK np (mi T mb 0) nm bo ho ma pr from fun q => c6 q.2.2.2.1)]
    · rw [if_pos c3, if_neg (show ¬ pOK np (mi T mb 0) nm bo ho ma pr from fun q => c3 q.2.2.1)]
  · rw [if_pos c2, if_neg (show ¬ pOK np (mi T mb 0) nm bo ho ma pr from fun q => c2 q.2.1)]
