/-! FEED -/
theorem BY_of (x : Int32) : BY x.toInt8.toInt32 (x &&& 255) := by
  refine ⟨x.toBitVec.toNat % 256, Nat.mod_lt _ (by decide), pk_and x 8 (by decide), ?_⟩
  have h : x.toInt8 = (nI (x.toBitVec.toNat % 256)).toInt8 := by
    rw [← Int8.toBitVec_inj]
    apply BitVec.eq_of_toNat_eq
    show (x.toBitVec.signExtend 8).toNat = ((nI (x.toBitVec.toNat % 256)).toBitVec.signExtend 8).toNat
    rw [BitVec.signExtend_eq_setWidth_of_le _ (by decide), BitVec.signExtend_eq_setWidth_of_le _ (by decide), BitVec.toNat_setWidth, BitVec.toNat_setWidth, pk_tn (by have := Nat.mod_lt x.toBitVec.toNat (show 0 < 256 by decide); omega)]
    omega
  rw [h]
theorem nrw14 (x : Int32) : nrw 14 x.toInt8.toInt32 = x.toInt8.toInt32 := by
  show x.toInt8.toInt32.toInt8.toInt32 = x.toInt8.toInt32
  simp
theorem X_put1 {T : St} {xb t fu : Nat} {n sh : Int32} (x : XOK T xb) (h7 : mi T xb 7 = nI t) (ht : t < 600) (hs : ¬ sh < 0) : ∃ T', f_X11_putBytes_3 (fu + 1) T xb n sh = f_X11_putBytes_3 fu T' xb n (sh + (-8)) ∧ SW (fun z => z = xb ∨ z = xb + 5) T T' ∧ mi T' xb 7 = nI (t + 1) ∧ (∀ z, z ≠ 7 → mi T' xb z = mi T xb z) ∧ mi T' (xb + 5) t = (n >>> (sh &&& 31)).toInt8.toInt32 ∧ ∀ z, z ≠ t → mi T' (xb + 5) z = mi T (xb + 5) z := by
  obtain ⟨A, hA⟩ : ∃ A, A = setI T (xb + 5) t (n >>> (sh &&& 31)).toInt8.toInt32 := ⟨_, rfl⟩
  have wA : SW (fun z => z = xb ∨ z = xb + 5) T A := by rw [hA]; exact SW_I _ _ (Or.inr rfl)
  have xA := x.sw wA
  have zA : ∀ z, mi A xb z = mi T xb z := fun z => by rw [hA, mi_setI_i, if_neg (by omega)]
  refine ⟨setI A xb 7 (nI (t + 1)), ?_, wA.tr (SW_I _ _ (Or.inl rfl)), ?_, fun z hz => ?_, ?_, fun z hz => ?_⟩
  · conv => lhs; unfold f_X11_putBytes_3
    rw [if_neg hs]
    simp only [xI x, h7, xR_tape x, xZ_tape x, Option.bind_some]
    rw [if_neg (by rw [le_i, nI_toInt (by omega)]; simp only [Int32.reduceToInt]; omega), xS_tape x ht, nrw14]
    simp only [Option.bind_some]
    rw [← hA]
    simp only [xI xA, zA, h7, xP xA, Option.bind_some, nI_1]
  · rw [mi_setI_i, if_pos ⟨rfl, rfl⟩]
  · rw [mi_setI_i, if_neg (fun c => hz c.2), zA]
  · rw [mi_setI_i, if_neg (by omega), hA, mi_setI_i, if_pos ⟨rfl, rfl⟩]
  · rw [mi_setI_i, if_neg (by omega), hA, mi_setI_i, if_neg (fun c => hz c.2)]
theorem X_put4 {T : St} {xb t : Nat} (n : Int32) (x : XOK T xb) (h7 : mi T xb 7 = nI t) (ht : t + 4 ≤ 600) : ∃ T', f_X11_putBytes T xb n = some T' ∧ SW (fun z => z = xb ∨ z = xb + 5) T T' ∧ mi T' xb 7 = nI (t + 4) ∧ (∀ z, z ≠ 7 → mi T' xb z = mi T xb z) ∧ (∀ j, j < 4 → mi T' (xb + 5) (t + j) = (n >>> ((24 - 8 * nI j) &&& 31)).toInt8.toInt32) ∧ ∀ z, z < t → mi T' (xb + 5) z = mi T (xb + 5) z := by
  obtain ⟨A, a1, a2, a3, a4, a5, a6⟩ := X_put1 (fu := 999999) (n := n) (sh := 24) x h7 (by omega) (by decide)
  obtain ⟨B, b1, b2, b3, b4, b5, b6⟩ := X_put1 (fu := 999998) (n := n) (sh := 24 + (-8)) (x.sw a2) a3 (by omega) (by decide)
  obtain ⟨C, c1, c2, c3, c4, c5, c6⟩ := X_put1 (fu := 999997) (n := n) (sh := 24 + (-8) + (-8)) ((x.sw a2).sw b2) b3 (by omega) (by decide)
  obtain ⟨D, d1, d2, d3, d4, d5, d6⟩ := X_put1 (fu := 999996) (n := n) (sh := 24 + (-8) + (-8) + (-8)) (((x.sw a2).sw b2).sw c2) c3 (by omega) (by decide)
  refine ⟨D, ?_, ((a2.tr b2).tr c2).tr d2, d3, fun z hz => by rw [d4 z hz, c4 z hz, b4 z hz, a4 z hz], fun j hj => ?_, fun z hz => by rw [d6 z (by omega), c6 z (by omega), b6 z (by omega), a6 z (by omega)]⟩
  · show f_X11_putBytes_3 (999999 + 1) T xb n 24 = some D
    rw [a1, b1, c1, d1]
    unfold f_X11_putBytes_3
    rw [if_pos (by decide)]
  · have : j = 0 ∨ j = 1 ∨ j = 2 ∨ j = 3 := by omega
    rcases this with rfl | rfl | rfl | rfl
    · rw [d6 _ (by omega), c6 _ (by omega), b6 _ (by omega)]; exact a5
    · rw [d6 _ (by omega), c6 _ (by omega)]; exact b5
    · rw [d6 _ (by omega)]; exact c5
    · exact d5
def fbv (a c d e g : Int32) (k : Nat) : Int32 := (if k < 4 then a else if k < 8 then c else if k < 12 then d else if k < 16 then e else g) >>> ((24 - 8 * nI (k % 4)) &&& 31)
theorem X_feed {S : St} {xb t : Nat} (a c d e g : Int32) (x : XOK S xb) (h7 : mi S xb 7 = nI t) (ht : t + 20 ≤ 600) : ∃ T, f_X11_feed S xb a c d e g = some (nI (t + 20), T) ∧ SW (fun z => z = xb ∨ z = xb + 5) S T ∧ mi T xb 7 = nI (t + 20) ∧ (∀ z, z ≠ 7 → mi T xb z = mi S xb z) ∧ (∀ j, j < 20 → mi T (xb + 5) (t + j) = (fbv a c d e g j).toInt8.toInt32) ∧ ∀ z, z < t → mi T (xb + 5) z = mi S (xb + 5) z := by
  obtain ⟨A, a1, a2, a3, a4, a5, a6⟩ := X_put4 a x h7 (by omega)
  obtain ⟨B, b1, b2, b3, b4, b5, b6⟩ := X_put4 c (x.sw a2) a3 (by omega)
  obtain ⟨C, c1, c2, c3, c4, c5, c6⟩ := X_put4 d ((x.sw a2).sw b2) b3 (by omega)
  obtain ⟨D, d1, d2, d3, d4, d5, d6⟩ := X_put4 e (((x.sw a2).sw b2).sw c2) c3 (by omega)
  obtain ⟨E, e1, e2, e3, e4, e5, e6⟩ := X_put4 g ((((x.sw a2).sw b2).sw c2).sw d2) d3 (by omega)
  have xE := ((((x.sw a2).sw b2).sw c2).sw d2).sw e2
  refine ⟨E, ?_, (((a2.tr b2).tr c2).tr d2).tr e2, e3, fun z hz => by rw [e4 z hz, d4 z hz, c4 z hz, b4 z hz, a4 z hz], fun j hj => ?_, fun z hz => by rw [e6 z (by omega), d6 z (by omega), c6 z (by omega), b6 z (by omega), a6 z (by omega)]⟩
  · unfold f_X11_feed
    simp only [xI x, h7, xR_tape x, xZ_tape x, Option.bind_some]
    rw [show nI t + 20 = nI (t + 20) by rw [show (20 : Int32) = nI 20 from rfl, nI_add], if_pos (by rw [le_i, nI_toInt (by omega)]; simp only [Int32.reduceToInt]; omega)]
    simp only [xV x, a1, xV (x.sw a2), b1, xV ((x.sw a2).sw b2), c1, xV (((x.sw a2).sw b2).sw c2), d1, xV ((((x.sw a2).sw b2).sw c2).sw d2), e1, xI xE, Option.bind_some]
    rw [e3]
  · unfold fbv
    by_cases q1 : j < 4
    · rw [if_pos q1, Nat.mod_eq_of_lt q1, e6 _ (by omega), d6 _ (by omega), c6 _ (by omega), b6 _ (by omega), a5 j q1]
    · rw [if_neg q1]
      by_cases q2 : j < 8
      · have := b5 (j - 4) (by omega)
        rw [if_pos q2, show j % 4 = j - 4 by omega, e6 _ (by omega), d6 _ (by omega), c6 _ (by omega), ← this, show t + 4 + (j - 4) = t + j by omega]
      · rw [if_neg q2]
        by_cases q3 : j < 12
        · have := c5 (j - 8) (by omega)
          rw [if_pos q3, show j % 4 = j - 8 by omega, e6 _ (by omega), d6 _ (by omega), ← this, show t + 4 + 4 + (j - 8) = t + j by omega]
        · rw [if_neg q3]
          by_cases q4 : j < 16
          · have := d5 (j - 12) (by omega)
            rw [if_pos q4, show j % 4 = j - 12 by omega, e6 _ (by omega), ← this, show t + 4 + 4 + 4 + (j - 12) = t + j by omega]
          · have := e5 (j - 16) (by omega)
            rw [if_neg q4, show j % 4 = j - 16 by omega, ← this, show t + 4 + 4 + 4 + 4 + (j - 16) = t + j by omega]
/-- the reference's tape -/
def fedM (M : MI) (a c d e g : Int32) (t k : Nat) : MI := fun o i => if o = 36 ∧ t ≤ i ∧ i < t + k then fbv a c d e g (i - t) &&& 255 else if o = 0 ∧ i = 44 then nI (t + k) else M o i
theorem M_feed18 {xb t : Nat} {M : MI} (a c d e g : Int32) (ht : t + 20 ≤ 600) : ∀ (n k fu : Nat) (T : St), k + n = 20 → n < fu → MOK T (xb + 22) → Mi T (xb + 22) = fedM M a c d e g t k → ∃ T', f_X12_feed_18 fu T (xb + 22) a c d e g (nI k) = some (nI (t + 20), T') ∧ SW (Pm xb) T T' ∧ Mi T' (xb + 22) = fedM M a c d e g t 20 ∧ Ml T' (xb + 22) = Ml T (xb + 22) := by
  intro n
  induction n with
  | zero =>
    intro k fu T h1 h2 m hM
    obtain ⟨fu, rfl⟩ : ∃ q, fu = q + 1 := ⟨fu - 1, by omega⟩
    have hk : k = 20 := by omega
    subst hk
    have h44 : mi T (xb + 22) 44 = nI (t + 20) := by
      have := congrFun (congrFun hM 0) 44
      unfold fedM at this
      rw [if_neg (by omega), if_pos ⟨rfl, rfl⟩] at this
      exact this
    unfold f_X12_feed_18
    rw [if_pos (by decide)]
    simp only [mI m, h44, Option.bind_some]
    exact ⟨T, rfl, SW.rf _ _, hM, rfl⟩
  | succ n ih =>
    intro k fu T h1 h2 m hM
    obtain ⟨fu, rfl⟩ : ∃ q, fu = q + 1 := ⟨fu - 1, by omega⟩
    have kI := nI_toInt (n := k) (by omega)
    have h44 : mi T (xb + 22) 44 = nI (t + k) := by
      have := congrFun (congrFun hM 0) 44
      unfold fedM at this
      rw [if_neg (by omega), if_pos ⟨rfl, rfl⟩] at this
      exact this
    have hrem : remI (nI k) 4 = some (nI (k % 4)) := by
      unfold remI
      rw [if_neg (by decide), show (4 : Int32) = nI 4 from rfl, pk_rem (by omega) (by omega) (by omega)]
    have step : ∀ t0 : Int32, t0 >>> ((24 - 8 * nI (k % 4)) &&& 31) = fbv a c d e g k → ∃ T', f_X12_feed_71 (f_X12_feed_18 fu) T (xb + 22) a c d e g (nI k) t0 = some (nI (t + 20), T') ∧ SW (Pm xb) T T' ∧ Mi T' (xb + 22) = fedM M a c d e g t 20 ∧ Ml T' (xb + 22) = Ml T (xb + 22) := by
      intro t0 h0
      unfold f_X12_feed_71
      simp only [mR_tape m, mI m, h44, hrem, Option.bind_some, h0, mS_tape m (show t + k < 600 by omega), nrw15]
      obtain ⟨A, hA⟩ : ∃ A, A = setI T (xb + 22 + 36) (t + k) (fbv a c d e g k &&& 255) := ⟨_, rfl⟩
      rw [← hA]
      have wA : SW (Pm xb) T A := by rw [hA]; exact SW_I _ _ ⟨by omega, by omega⟩
      have mA := m.sw wA
      have zA : mi A (xb + 22) 44 = nI (t + k) := by rw [hA, mi_setI_i, if_neg (by omega), h44]
      have iA : Mi A (xb + 22) = up2 (Mi T (xb + 22)) 36 (t + k) (fbv a c d e g k &&& 255) := by rw [hA, Mi_setI]
      have lA : Ml A (xb + 22) = Ml T (xb + 22) := by rw [hA, Ml_setI]
      clear hA
      simp only [mI mA, zA, mP mA, Option.bind_some, nI_1]
      obtain ⟨B, hB⟩ : ∃ B, B = setI A (xb + 22) 44 (nI (t + k + 1)) := ⟨_, rfl⟩
      rw [← hB]
      have wB : SW (Pm xb) A B := by rw [hB]; exact SW_I _ _ ⟨by omega, by omega⟩
      have iB : Mi B (xb + 22) = up2 (Mi A (xb + 22)) 0 44 (nI (t + k + 1)) := by rw [hB, Mi_setI0]
      have lB : Ml B (xb + 22) = Ml A (xb + 22) := by rw [hB, Ml_setI]
      clear hB
      obtain ⟨T', g1, g2, g3, g4⟩ := ih (k + 1) fu B (by omega) (by omega) (mA.sw wB) (by
        rw [iB, iA, hM]
        funext o i
        unfold up2 fedM
        by_cases q1 : o = 0 ∧ i = 44
        · rw [if_pos q1, if_neg (by omega), if_pos q1]; rfl
        · rw [if_neg q1]
          by_cases q2 : o = 36 ∧ i = t + k
          · rw [if_pos q2, if_pos (by omega), q2.2, show t + k - t = k by omega]
          · rw [if_neg q2]
            by_cases q3 : o = 36 ∧ t ≤ i ∧ i < t + k
            · rw [if_pos q3, if_pos (by omega)]
            · rw [if_neg q3, if_neg q1, if_neg q1, if_neg (by omega)])
      exact ⟨T', g1, (wA.tr wB).tr g2, g3, by rw [g4, lB, lA]⟩
    unfold f_X12_feed_18
    rw [if_neg (by rw [le_i, kI]; simp only [Int32.reduceToInt]; omega)]
    simp only [le_i, kI, Int32.reduceToInt]
    by_cases q1 : k < 4
    · rw [if_neg (by omega)]
      exact step a (by unfold fbv; rw [if_pos q1])
    · rw [if_pos (by omega)]
      by_cases q2 : k < 8
      · rw [if_neg (by omega)]
        exact step c (by unfold fbv; rw [if_neg q1, if_pos q2])
      · rw [if_pos (by omega)]
        by_cases q3 : k < 12
        · rw [if_neg (by omega)]
          exact step d (by unfold fbv; rw [if_neg q1, if_neg q2, if_pos q3])
        · rw [if_pos (by omega)]
          by_cases q4 : k < 16
          · rw [if_neg (by omega)]
            exact step e (by unfold fbv; rw [if_neg q1, if_neg q2, if_neg q3, if_pos q4])
          · rw [if_pos (by omega)]
            exact step g (by unfold fbv; rw [if_neg q1, if_neg q2, if_neg q3, if_neg q4])
theorem op_feed {S : St} {xb k : Nat} (h : JJ S xb (k + 1)) (a c d e g : Int32) : ∃ r S1, f_X11_feed S xb a c d e g = some (r, S1) ∧ ∃ S2, f_X12_feed S1 (xb + 22) a c d e g = some (r, S2) ∧ JJ S2 xb k := by
  obtain ⟨⟨g', j⟩, rm1, rm2⟩ := id h
  obtain ⟨nf, fa, np, pa, na, aa, ne, ea, il, nc, ca, rfl, b, c0, ct, cy, cf, cp, cn, ca', ce, cc, cl⟩ := j.op
  have x := b.2.2.1
  have m := b.2.2.2.1
  obtain ⟨t, t1, t2, t3, t4⟩ := id ct
  have t3 : mi S (xb + 22) 44 = nI t := t3
  have e20 : nI t + 20 = nI (t + 20) := by rw [show (20 : Int32) = nI 20 from rfl, nI_add]
  by_cases c1 : t + 20 ≤ 600
  · obtain ⟨T, u1, u2, u3, u4, u5, u6⟩ := X_feed a c d e g x t2 c1
    have hP : ∀ z, (z = xb ∨ z = xb + 5) → okq S xb z := fun z hz => by
      have k1 := x.1
      have k2 := xK_tape x
      unfold okq
      rcases hz with rfl | rfl <;> omega
    have FT : Fr (fun z => z = xb ∨ z = xb + 5) S T := u2.fr (fun z hz => by
      have k1 := x.1
      have k2 := xK_tape x
      rcases hz with rfl | rfl <;> omega)
    have bT : BS T xb := b.fr FT (fun z _ => by rw [u2.mr]) (fun z hz => by rw [u2.kd]; have : kd S z = 99 := b.1 z hz; omega)
    have mT := bT.2.2.2.1
    have eT := fun o ho => Fr_m_of b FT (fun z hz => by rcases hz with rfl | rfl <;> omega) o ho
    have f44 : mi T (xb + 22) 44 = nI t := (congrFun (eT 0 (by omega)).1 44).trans t3
    refine ⟨_, T, u1, ?_⟩
    have h0 : Mi T (xb + 22) = fedM (Mi T (xb + 22)) a c d e g t 0 := by
      funext o i
      unfold fedM
      rw [if_neg (by omega)]
      by_cases q : o = 0 ∧ i = 44
      · rw [if_pos q, q.1, q.2]; exact f44
      · rw [if_neg q]
    obtain ⟨V, v1, v2, v3, v4⟩ := M_feed18 (xb := xb) a c d e g c1 20 0 FU T (by omega) (by unfold FU; omega) mT h0
    rw [nI_0] at v1
    refine ⟨V, ?_, ?_⟩
    · unfold f_X12_feed
      simp only [mI mT, f44, Option.bind_some, e20]
      rw [if_pos (by rw [le_i, nI_toInt (by omega)]; simp only [Int32.reduceToInt]; omega)]
      exact v1
    · refine h.fin (M' := fedM (Mi S (xb + 22)) a c d e g t 20) (L' := Ml S (xb + 22)) (j.go7 FT bT hP (by rw [u4 5 (by decide)]) ?_ (PeqL.rf _) ?_ ?_ (cy.go (by rw [(u2.2.2.2 (xb + 17) (by omega)).1]) ?_)) u2.cap (by rw [u2.nx]; omega) (by rw [u2.sl]; omega) (v2.fm mT) v2.mr v2.nx v2.sl ?_ ?_
      · refine ⟨fun o ho => ?_, fun f hf => ?_, ?_⟩
        · have h36 : o ≠ 36 ∧ o ≠ 0 := by
            constructor
            · intro q; subst q; revert ho; decide
            · intro q; subst q; revert ho; decide
          funext i
          unfold fedM
          rw [if_neg (fun q => h36.1 q.1), if_neg (fun q => h36.2 q.1)]
        · have h44 : f ≠ 44 := by
            intro q; subst q; revert hf; decide
          unfold fedM
          rw [if_neg (by omega), if_neg (fun q => h44 q.2)]
        · unfold fedM
          rw [if_neg (by omega), if_neg (by omega)]; exact Int.le_refl _
      · unfold C0
        have q : ∀ y, y ≠ 44 → fedM (Mi S (xb + 22)) a c d e g t 20 0 y = Mi S (xb + 22) 0 y := fun y hy => by
          unfold fedM
          rw [if_neg (by omega), if_neg (fun q => hy q.2)]
        rw [u4 0 (by decide), u4 10 (by decide), u4 11 (by decide), q 0 (by decide), q 51 (by decide), q 54 (by decide)]
        exact c0
      · refine ⟨t + 20, c1, u3, ?_, fun i hi => ?_⟩
        · unfold fedM
          rw [if_neg (by omega), if_pos ⟨rfl, rfl⟩]
        · by_cases q : t ≤ i
          · have e1 : fedM (Mi S (xb + 22)) a c d e g t 20 36 i = fbv a c d e g (i - t) &&& 255 := by
              unfold fedM
              rw [if_pos ⟨rfl, q, hi⟩]
            have e2 := u5 (i - t) (by omega)
            rw [show t + (i - t) = i by omega] at e2
            rw [e1, e2]
            exact BY_of _
          · have e1 : fedM (Mi S (xb + 22)) a c d e g t 20 36 i = Mi S (xb + 22) 36 i := by
              unfold fedM
              rw [if_neg (by omega), if_neg (by omega)]
            rw [e1, u6 i (by omega)]
            exact t4 i (by omega)
      · funext i
        unfold fedM
        rw [if_neg (by omega), if_neg (by omega)]
      · rw [v3]
        refine PeqI_of (fun o ho => ?_)
        funext i
        unfold fedM
        rw [(eT o ho).1]
      · rw [v4]
        exact PeqL_of (fun o ho => (eT o ho).2)
  · refine ⟨-1, S, ?_, S, ?_, h.le⟩
    · unfold f_X11_feed
      simp only [xI x, t2, xR_tape x, xZ_tape x, Option.bind_some, e20]
      rw [if_neg (by rw [le_i, nI_toInt (by omega)]; simp only [Int32.reduceToInt]; omega)]
    · unfold f_X12_feed
      simp only [mI m, t3, Option.bind_some, e20]
      rw [if_neg (by rw [le_i, nI_toInt (by omega)]; simp only [Int32.reduceToInt]; omega)]
