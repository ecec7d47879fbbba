/-! THE CONSTRUCTORS: both are made, nothing has been told -/
theorem li_none {C : St} {l : Nat} (f : Nat → Nat) (k : kd C l = 0) (h2 : mi C l 2 = 0) (h1 : mr C l 1 = some (emp C)) (he : kd C (emp C) = 21) : LI C l 0 f := ⟨k, h2.trans nI_0.symm, by omega, ⟨emp C, h1, Or.inl ⟨rfl, rfl, he⟩, fun i hi => by omega⟩, fun i hi => by omega⟩
theorem init_all {S0 : St} (hI : Init0 S0) : ∃ T0 S4 S8 S12 : St, newO S0 12 = some (nx S0, T0) ∧ f_X11_init T0 (nx S0) = some S4 ∧ newO S4 13 = some (nx S0 + 22, S8) ∧ f_X12_init S8 (nx S0 + 22) = some S12 ∧ kd T0 (nx S0) = 12 ∧ kd S8 (nx S0 + 22) = 13 ∧ JJ S12 (nx S0) 512 := by
  obtain ⟨i1, i2, i3, i4, i5, i6⟩ := hI
  obtain ⟨xb, hxb⟩ : ∃ xb, xb = nx S0 := ⟨_, rfl⟩
  rw [← hxb] at i1 i6 ⊢
  have hc : xb + 600000 ≤ cap S0 := by omega
  have r0 : REP S0 S0 xb 0 0 (fun _ => 99) (fun _ => 0) (fun _ _ => 0) (fun _ _ => 0) := ⟨⟨hxb.symm, i2, rfl, rfl, rfl⟩, fun o ho => by omega, fun o i ho => by omega, fun o i _ => ⟨rfl, rfl⟩, fun a _ => ⟨rfl, rfl, rfl, rfl⟩, fun a ha => i6 a ha⟩
  obtain ⟨T0, t1, t2⟩ := rep_newO r0 12 (by decide) (by omega)
  have kT0 : kd T0 (xb + 0) = 12 := rep_kd t2 0 (by omega) rfl
  obtain ⟨T1, s1, K, Ln, I, R, u1, u2, u3, u4⟩ := x11_chain hc t2
  obtain ⟨x1, x2, x3, x4, x5, x6, x7, x8, x9⟩ := u4
  have z14 := x2 (0, 14, 17, 15, 20) (by decide)
  obtain ⟨T2, I1, v1, v2, v3, v4⟩ := X_i173 (S := S0) x1 z14.1 z14.2.1 z14.2.2 20 0 FU T1 I (by omega) (by unfold FU; omega) u2
  rw [nI_0] at v1
  have Iz : ∀ o i, 22 ≤ o → I o i = 0 := fun o i ho => (u2.2.2.2.1 o i ho).1
  have n13 : nfl 13 ≤ 100 := by decide
  obtain ⟨T3, a1, a2⟩ := rep_newO v2 13 (by omega) (by omega)
  have kT3 : kd T3 (xb + 22) = 13 := rep_kd a2 22 (by omega) (up1_eq _ _ _)
  obtain ⟨T4, s4, K4, L4, R4, b1, b2, b3, b4, b5, b6⟩ := x12_chain hc (by omega) (up1_eq _ _ _) a2
  have m4 : MOK T4 (xb + 22) := by
    refine ⟨rep_kd b2 22 (by omega) b4.1, fun q hq => ?_⟩
    obtain ⟨q1, q2, q3⟩ := b4.2 q hq
    have hq60 : q.2.1 < 60 := by
      have : ∀ z ∈ mTab, z.2.1 < 60 := by decide
      exact this q hq
    refine ⟨?_, ?_, ?_⟩
    · rw [(b2.2.2.1 22 q.1 (by omega)).2.2, q1]
      show some (xb + (22 + q.2.1 + 2 - 2)) = _
      rw [show xb + (22 + q.2.1 + 2 - 2) = xb + 22 + q.2.1 by omega]
    · rw [show xb + 22 + q.2.1 = xb + (22 + q.2.1) by omega, (b2.2.1 (22 + q.2.1) (by omega)).1, q2]
    · rw [show xb + 22 + q.2.1 = xb + (22 + q.2.1) by omega, (b2.2.1 (22 + q.2.1) (by omega)).2, q3]
  obtain ⟨A, c1, c2, c3, c4, c5⟩ := M_i489 (mb := xb + 22) 4 0 FU T4 (by omega) (by unfold FU; omega) m4
  have mA := m4.sw c2
  obtain ⟨B, d1, d2, d3, d4⟩ := M_i507 (mb := xb + 22) 20 0 FU A (by omega) (by unfold FU; omega) mA
  have mB := mA.sw d2
  obtain ⟨C, e1, e2, e3, e4⟩ := M_i528 (mb := xb + 22) 160 0 FU B (by omega) (by unfold FU; omega) mB
  rw [nI_0] at c1 d1 e1
  have mC := mB.sw e2
  have kC : ∀ a, kd C a = kd T4 a := fun a => by rw [e2.kd, d2.kd, c2.kd]
  have lC : ∀ a, ln C a = ln T4 a := fun a => by rw [e2.ln, d2.ln, c2.ln]
  have rC : ∀ a, mr C a = mr T4 a := fun a => by rw [e2.mr, d2.mr, c2.mr]
  have LC : ml C = ml T4 := by rw [e3, d3, c3]
  have vC : ∀ a, a < xb + 42 ∨ xb + 48 < a ∧ a ≠ xb + 78 ∧ a ≠ xb + 79 → mi C a = mi T4 a := fun a ha => by
    rw [(e2.2.2.2 a (by omega)).1, (d2.2.2.2 a (by omega)).1, (c2.2.2.2 a (by unfold PCl; omega)).1]
  -- cells by their offset
  have ki : ∀ o, o < 22 → K4 o = K o ∧ L4 o = Ln o := fun o ho => by
    have := b5 o (by omega)
    rw [up1_ne _ (by omega), up1_ne _ (by omega)] at this
    exact this
  have kx : ∀ o, o < 22 → kd C (xb + o) = K o ∧ ln C (xb + o) = Ln o := fun o ho => by
    rw [kC, lC, (b2.2.1 o (by omega)).1, (b2.2.1 o (by omega)).2]
    exact ki o ho
  have rx : ∀ o i, o < 22 → mr C (xb + o) i = rvc S0 xb (R o i) := fun o i ho => by
    rw [rC, (b2.2.2.1 o i (by omega)).2.2, b6 o i (by omega)]
  have ix : ∀ o i, o < 22 → mi C (xb + o) i = I1 o i := fun o i ho => by
    rw [vC _ (by omega), (b2.2.2.1 o i (by omega)).1, up2_ne _ (by omega)]
  have ix' : ∀ o i, o < 22 → o ≠ 17 → mi C (xb + o) i = I o i := fun o i ho h17 => by rw [ix o i ho, v4 o h17]
  have iz : ∀ o i, 22 ≤ o → o < 82 → (o < 42 ∨ 48 < o ∧ o ≠ 78 ∧ o ≠ 79) → mi C (xb + o) i = if o = 22 ∧ i = 54 then -1 else 0 := fun o i h1 h2 h3 => by
    rw [vC _ (by omega), (b2.2.2.1 o i (by omega)).1]
    unfold up2
    by_cases e : o = 22 ∧ i = 54
    · rw [if_pos e, if_pos e]
    · rw [if_neg e, if_neg e, v4 o (by omega)]; exact Iz o i h1
  have lz : ∀ o i, o < 82 → ml C (xb + o) i = 0 := fun o i ho => by rw [LC]; exact (b2.2.2.1 o i ho).2.1
  have eC : emp C = emp S0 := by rw [e2.emp, d2.emp, c2.emp]; exact b2.1.2.2.2.1
  have lo : ∀ a, a < xb → kd C a = kd S0 a ∧ ln C a = ln S0 a ∧ mi C a = mi S0 a := fun a ha => by
    obtain ⟨y1, y2, y3, -⟩ := b2.2.2.2.2.1 a ha
    exact ⟨(kC a).trans y1, (lC a).trans y2, (vC a (by omega)).trans y3⟩
  have lt : ∀ a, kd S0 a ≠ 99 → a < xb := fun a h => by
    rcases Nat.lt_or_ge a xb with z | z
    · exact z
    · exact absurd (i6 a z) h
  have kE : kd C (emp C) = 21 := by rw [eC, (lo _ (lt _ (by omega))).1]; exact i3
  have nC : nx C = xb + 82 := by rw [e2.nx, d2.nx, c2.nx]; exact b2.1.1
  have sC : sl C = s4 := by rw [e2.sl, d2.sl, c2.sl]; exact b2.1.2.1
  have cC : cap C = cap S0 := by rw [e2.cap, d2.cap, c2.cap]; exact b2.1.2.2.1
  have tC : lit C = lit S0 := by rw [e2.lit, d2.lit, c2.lit]; exact b2.1.2.2.2.2
  have hk0 : ∀ a, kd C a = 0 → ∃ o, o < 22 ∧ a = xb + o ∧ K o = 0 := fun a h => by
    rcases Nat.lt_or_ge a xb with z | z
    · have y := i5 a
      rw [(lo a z).1] at h
      omega
    · obtain ⟨o, rfl⟩ := Nat.exists_eq_add_of_le z
      by_cases h22 : o < 22
      · exact ⟨o, h22, rfl, by rw [← (kx o h22).1]; exact h⟩
      · by_cases h82 : o < 82
        · have := mKind mC (a := xb + o) (by omega) (by omega)
          omega
        · have := b2.2.2.2.2.2 (xb + o) (by omega)
          rw [kC, this] at h
          omega
  have wf : WFS C := fun a ha => by
    rw [nC] at ha
    rw [kC]; exact b2.2.2.2.2.2 a ha
  have em : ∀ o, o < 22 → K o = 0 → mr C (xb + o) 1 = some (emp C) := fun o ho hk => by
    rw [rx o 1 ho, (x4 o ho hk).1, eC]
    rfl
  have da : DA C := by
    refine ⟨fun l e h1 h2 => ?_, fun l1 l2 e h1 h2 h3 h4 h5 => ?_⟩
    · obtain ⟨o, o1, rfl, o3⟩ := hk0 l h1
      rw [em o o1 o3] at h2
      rw [← Option.some.inj h2, kE]; omega
    · obtain ⟨o, o1, rfl, o3⟩ := hk0 l1 h1
      rw [em o o1 o3] at h3
      rw [← Option.some.inj h3, kE] at h5
      omega
  have xo : XOK C xb := by
    have k00 : kd C (xb + 0) = 12 := by rw [(kx 0 (by omega)).1]; exact x1
    refine ⟨k00, fun q hq => ?_⟩
    obtain ⟨q1, q2, q3⟩ := x2 q hq
    have hb : q.1 < 22 ∧ q.2.2.1 < 22 := by
      have : ∀ z ∈ xTab, z.1 < 22 ∧ z.2.2.1 < 22 := by decide
      exact this q hq
    refine ⟨?_, ?_, ?_⟩
    · rw [rx q.1 q.2.1 hb.1, q1]
      rfl
    · rw [(kx _ hb.2).1]; exact q2
    · rw [(kx _ hb.2).2]; exact q3
  have l0 : LT0 C := by
    refine ⟨kE, fun i hi => ?_⟩
    obtain ⟨y1, y2, y3⟩ := i4 i hi
    obtain ⟨z1, z2, z3⟩ := lo (lit S0 i) (lt _ (by omega))
    rw [tC, z1, z2, z3]
    exact ⟨y1, y2, y3⟩
  have bs' : BS C xb := ⟨wf, da, xo, mC, l0, by omega⟩
  have fl : ∀ i, mi C (xb + 22) i = if i = 54 then -1 else 0 := fun i => by
    rw [iz 22 i (by omega) (by omega) (by omega)]
    by_cases e : i = 54
    · rw [if_pos ⟨rfl, e⟩, if_pos e]
    · rw [if_neg (fun z => e z.2), if_neg e]
  have i00 : ∀ f, mi C xb f = I 0 f := fun f => ix' 0 f (by omega) (by omega)
  have cl20 : ∀ s k, s < 4 → k < 4 → mi C (xb + 22 + 20) (4 * s + k) = 5 := fun s k hs hk => by
    rw [(e2.2.2.2 _ (by omega)).1, (d2.2.2.2 _ (by omega)).1, c4, if_pos (by omega)]
  have clo : ∀ o s, 21 ≤ o → o ≤ 26 → s < 4 → mi C (xb + 22 + o) s = clv o := fun o s h1 h2 hs => by
    rw [(e2.2.2.2 _ (by omega)).1, (d2.2.2.2 _ (by omega)).1, c5 o h1 h2, if_pos (by omega)]
  refine ⟨T0, T2, T3, C, t1, u1.trans v1, a1, ?_, kT0, kT3, ⟨⟨((0, fun _ => 0), (0, fun _ => 0), (0, fun _ => 0), (0, fun _ => 0, fun _ => []), (0, fun _ => 0)), JX.mk bs' ?_ ?_ ?_ ?_ ?_ ?_ ?_ ?_ ?_ ?_⟩, by omega, by omega⟩⟩
  · rw [b1]
    exact x12_go c1 d1 e1
  · -- C0
    refine ⟨?_, ?_, ?_, ?_, ?_⟩
    · rw [i00, x3.1]; exact (fl 0).symm
    · show 0 ≤ (mi C (xb + 22) 0).toInt; rw [fl]; decide
    · show (mi C (xb + 22) 0).toInt ≤ 19999; rw [fl]; decide
    · rw [i00, x3.2.2.2.1]; exact (fl 51).symm
    · rw [i00, x3.2.2.2.2]; exact (fl 54).symm
  · -- CT
    refine ⟨0, by omega, ?_, ?_, fun i hi => by omega⟩
    · rw [i00, x3.2.2.1]; rfl
    · exact (fl 44).trans rfl
  · -- CY
    intro y hy
    have q1 : mi C (xb + 17) y = 1 := by rw [ix 17 y (by omega), v3, if_pos (by omega)]
    have q2 : Mi C (xb + 22) 57 y = 1 := by
      show mi C (xb + 22 + 57) y = 1
      rw [(e2.2.2.2 _ (by omega)).1, d4, if_pos (by omega)]
    rw [q1, q2]
    exact ⟨rfl, by decide, by decide⟩
  · -- CF
    refine ⟨(fl 1).trans rfl, by omega, li_none _ ?_ ?_ ?_ kE, fun i hi => by omega, fun i y h1 h2 h3 => ?_⟩
    · rw [(kx 1 (by omega)).1]; exact x5.1
    · rw [ix' 1 2 (by omega) (by omega)]; exact (x4 1 (by omega) x5.1).2
    · exact em 1 (by omega) x5.1
    · show mi C (xb + 22 + 56) (20 * i + y) = -1
      rw [e4, if_pos (by omega)]
  · -- CP
    refine ⟨(fl 2).trans rfl, by omega, li_none _ ?_ ?_ ?_ kE, fun i hi => by omega⟩
    · rw [(kx 2 (by omega)).1]; exact x5.2.1
    · rw [ix' 2 2 (by omega) (by omega)]; exact (x4 2 (by omega) x5.2.1).2
    · exact em 2 (by omega) x5.2.1
  · -- CN
    exact ⟨fun _ => false, fun q hq => by omega, fun q hq => by omega⟩
  · -- CA
    refine ⟨(fl 3).trans rfl, by omega, li_none _ ?_ ?_ ?_ kE, fun i hi => by omega⟩
    · rw [(kx 3 (by omega)).1]; exact x5.2.2.1
    · rw [ix' 3 2 (by omega) (by omega)]; exact (x4 3 (by omega) x5.2.2.1).2
    · exact em 3 (by omega) x5.2.2.1
  · -- CE
    exact ⟨by rw [i00, x3.2.1]; rfl, (fl 4).trans rfl, by omega, fun i hi => by omega, fun a ha => by omega⟩
  · -- CC
    refine ⟨(fl 69).trans rfl, by omega, li_none _ ?_ ?_ ?_ kE, fun i hi => by omega, fun c h1 h2 => ⟨?_, ?_, ?_⟩⟩
    · rw [(kx 4 (by omega)).1]; exact x5.2.2.2
    · rw [ix' 4 2 (by omega) (by omega)]; exact (x4 4 (by omega) x5.2.2.2).2
    · exact em 4 (by omega) x5.2.2.2
    · exact (iz 75 c (by omega) (by omega) (by omega)).trans (if_neg (by omega))
    · exact lz 76 c (by omega)
    · exact lz 77 c (by omega)
  · -- CL
    intro s hs
    refine ⟨xb + 6, ?_, ?_⟩
    · rw [rx 9 s (by omega), x9 s hs]; rfl
    · obtain ⟨w1, w2, w3, w4, w5, w6, w7⟩ := x6
      obtain ⟨y1, y2, y3, y4, y5, y6⟩ := x8
      have i6' : ∀ f, mi C (xb + 6) f = I 6 f := fun f => ix' 6 f (by omega) (by omega)
      refine ⟨by rw [(kx 6 (by omega)).1]; exact w1, Or.inl rfl, by rw [rx 6 1 (by omega), w2]; rfl, ?_, ?_, fun k hk => ?_, ?_, ?_, ?_, ?_, ?_, ?_, ?_, by rw [rx 6 7 (by omega), w3]; rfl, ?_, ?_⟩
      · show kd C (xb + 7) = 15
        rw [(kx 7 (by omega)).1]; exact w4
      · show ln C (xb + 7) = 4
        rw [(kx 7 (by omega)).2]; exact w5
      · have q1 : mi C (xb + 6 + 1) k = 5 := by
          show mi C (xb + 7) k = 5
          rw [ix' 7 k (by omega) (by omega)]; exact x7 k hk
        have q2 : Mi C (xb + 22) 20 (4 * s + k) = 5 := cl20 s k hs hk
        rw [q1, q2]
        exact ⟨rfl, by decide, by decide⟩
      · rw [i6', y1, if_pos rfl]; exact clo 21 s (by omega) (by omega) hs
      · rw [i6', y2]; exact (clo 22 s (by omega) (by omega) hs).symm
      · rw [i6', y3]; exact (clo 23 s (by omega) (by omega) hs).symm
      · rw [i6', y4]; exact (clo 24 s (by omega) (by omega) hs).symm
      · rw [i6', y5]; exact (clo 25 s (by omega) (by omega) hs).symm
      · rw [show Mi C (xb + 22) 25 s = 0 from clo 25 s (by omega) (by omega) hs]; decide
      · rw [show Mi C (xb + 22) 25 s = 0 from clo 25 s (by omega) (by omega) hs]; decide
      · show kd C (xb + 8) = 15
        rw [(kx 8 (by omega)).1]; exact w6
      · have l8 : ln C (xb + 6 + 2) = 0 := by
          show ln C (xb + 8) = 0
          rw [(kx 8 (by omega)).2]; exact w7
        refine ⟨[], fun q hq => (by cases hq), ⟨?_, by decide, by decide, fun i hi => (by cases hi), ?_, fun i hi => (by cases hi)⟩, ?_, Nat.zero_le _, by omega, fun i hi => (by cases hi)⟩
        · exact clo 26 s (by omega) (by omega) hs
        · exact (iz 49 (25 * s + 0) (by omega) (by omega) (by omega)).trans (if_neg (by omega))
        · rw [i6', y6]; rfl
