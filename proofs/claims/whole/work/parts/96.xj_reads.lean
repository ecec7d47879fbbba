section Ord
variable {S T U V S1 S2 : St} {xb n i k r la l : Nat} {tb : Nat → Nat} {ts : List Tk} {f : Nat → Nat}
/-- the class's cells after its lines -/
theorem X_aft (b : BS S xb) (hp : KS r la l ts f T) (q : Fr (fun z => z = xb) S T) (hT : XOK T xb ∧ MOK T (xb + 22) ∧ LT0 T ∧ DA T) (hr : nx S ≤ r) (hl : nx S < la) (w : SW (Pc r la) T U) (hV : V = setI (setI U xb 10 (mi U r 1)) xb 11 (mi U r 2)) : BS V xb ∧ Fr (fun z => z = xb) S V ∧ kd V = kd U ∧ ln V = ln U ∧ mr V = mr U ∧ (∀ a, a ≠ xb → mi V a = mi U a) ∧ mi V xb 10 = mi U r 1 ∧ mi V xb 11 = mi U r 2 ∧ (∀ j, j ≠ 10 → j ≠ 11 → mi V xb j = mi T xb j) ∧ nx V = nx T ∧ sl V = sl T ∧ cap V = cap S := by
  obtain ⟨x, m, t, d⟩ := hT
  have n82 := b.2.2.2.2.2
  have wV : SW (fun z => Pc r la z ∨ z = xb) T V := by
    rw [hV]
    exact ((w.mono (fun z hz => Or.inl hz)).tr (SW_I (P := fun z => Pc r la z ∨ z = xb) 10 _ (Or.inr rfl))).tr (SW_I 11 _ (Or.inr rfl))
  have k20 : ∀ z, (Pc r la z ∨ z = xb) → kd T z ≤ 20 := fun z hz => by
    rcases hz with (z1 | z1 | z1 | z1) | z1
    · rw [z1, hp.1]; omega
    · rw [z1, hp.2.2.2.1]; omega
    · rw [z1, hp.2.2.2.2.2.2.2.2.1]; omega
    · rw [z1, hp.2.2.2.2.2.1]; omega
    · rw [z1, x.1]; omega
  have fV : Fr (fun z => z = xb) S V := q.tr (wV.fr k20) (fun z z1 z2 => by
    rcases z2 with z2 | z2
    · unfold Pc at z2; omega
    · exact z2)
  have wT : WFS T := q.2.1 b.1
  have dV : DA V := by
    unfold DA
    rw [wV.kd, wV.mr]
    exact d
  have mU : mi U xb = mi T xb := (w.2.2.2 xb (fun z => by unfold Pc at z; omega)).1
  refine ⟨⟨fV.2.1 b.1, dV, x.sw wV, m.sw wV, t.swg wV k20, by rw [wV.nx]; exact Nat.le_trans n82 q.nxle⟩, fV, by rw [hV]; rfl, by rw [hV]; rfl, by rw [hV]; rfl, fun a ha => ?_, ?_, ?_, fun j h1 h2 => ?_, wV.nx, wV.sl, by rw [wV.cap]; exact q.capE⟩
  · rw [hV]
    funext j
    rw [mi_setI_i, if_neg (fun z => ha z.1), mi_setI_i, if_neg (fun z => ha z.1)]
  · rw [hV, mi_setI_i, if_neg (by omega), mi_setI_i, if_pos ⟨rfl, rfl⟩]
  · rw [hV, mi_setI_i, if_pos ⟨rfl, rfl⟩]
  · rw [hV, mi_setI_i, if_neg (by omega), mi_setI_i, if_neg (by omega), mU]
theorem BS.law {la : Nat} (b : BS V xb) (i : Nat) : BS (setR V (xb + 9) i (some la)) xb := by
  obtain ⟨w, d, x, m, t, h⟩ := b
  have F : Fr (fun z => z = xb + 9) V (setR V (xb + 9) i (some la)) := Fr_setR i _ (by rw [xK_laws x]; omega) (fun _ => rfl)
  have r : ∀ a, a ≠ xb + 9 → mr (setR V (xb + 9) i (some la)) a = mr V a := fun a ha => by
    funext j
    rw [mr_setR_i, if_neg (fun z => ha z.1)]
  refine ⟨F.2.1 w, d.fr w F (fun a _ hk => ?_) (fun a ha => ?_), x.fr w F (r _ (by omega)) (r _ (by omega)) (r _ (by omega)) (r _ (by omega)), m.fr w F (r _ (by omega)), t.fr w F, h⟩
  · rw [r a (fun z => by rw [z, xK_laws x] at hk; omega)]
  · show kd V a ≠ 0
    rw [w a ha]; omega
/-- the reference's run, up to its lines -/
theorem M_run {mb : Nat} (hk : RKm mb tb n ts S1) (hi : i < 4) : ∃ Tm, RWo mb S1 Tm ∧ (∃ d, PMr mb tb n ts Tm 0 d []) ∧ mi Tm mb 42 = 0 ∧ ∀ T2 z Q, f_X12_reads_40 FU Tm mb (nI i) 1 = some (mb, nI i, z, T2) → f_X12_reads_59 T2 mb (nI i) z = Q → f_X12_reads S1 mb (nI i) = Q := by
  obtain ⟨A, Tm, hA, e1, e2, w, p, h42⟩ := M_beg hk
  refine ⟨Tm, w, p, h42, fun T2 z Q g1 g2 => ?_⟩
  have m := hk.1
  unfold f_X12_reads
  simp only [M_isState, Option.bind_some, i01, nI_toInt (show i < 2 ^ 31 by omega)]
  rw [if_neg (by omega)]
  simp only [mP m, mP (m.si mb 49 0), mP ((m.si mb 49 0).si mb 45 0), mP (((m.si mb 49 0).si mb 45 0).si mb 42 0), Option.bind_some, ← hA, e2, e1]
  exact (bnd g1).trans g2
theorem rd_room {a c k : Nat} (h : a + 1000 * (k + 1) ≤ c) : a + 1000 ≤ c := Nat.le_trans (Nat.add_le_add_left (Nat.le_mul_of_pos_right 1000 (Nat.succ_pos k)) a) h
theorem rd_room2 {a k : Nat} (h : a + 14000 * (k + 1) ≤ 7302250) : a + 14000 ≤ 7302250 := Nat.le_trans (Nat.add_le_add_left (Nat.le_mul_of_pos_right 14000 (Nat.succ_pos k)) a) h
def Pqm (xb z : Nat) : Prop := z = xb + 22 ∨ xb + 42 ≤ z ∧ z ≤ xb + 57
theorem op_reads {S : St} {xb k : Nat} (h : JJ S xb (k + 1)) (s : Int32) : ∃ r S1, f_X11_reads S xb s = some (r, S1) ∧ ∃ S2, f_X12_reads S1 (xb + 22) s = some (r, S2) ∧ JJ S2 xb k := by
  obtain ⟨⟨g', j⟩, rm1, rm2⟩ := id h
  have hc1 : nx S + 1000 ≤ cap S := rd_room rm1
  have hs1 : sl S + 14000 ≤ 7302250 := rd_room2 rm2
  obtain ⟨nf, fa, np, pa, na, aa, ne, ea, il, nc, ca, rfl, b, c0, ct, cy, cf, cp, cn, ca', ce, cc, cl⟩ := j.op
  have x := b.2.2.1
  have m := b.2.2.2.1
  have n82 := b.2.2.2.2.2
  obtain ⟨n, t1, t2, t3, t4⟩ := id ct
  have t3 : mi S (xb + 22) 44 = nI n := t3
  rcases ixc s (n := 4) (by decide) with ⟨i, hi, rfl⟩ | c1
  · -- a state
    obtain ⟨tb, htb⟩ : ∃ tb : Nat → Nat, ∀ a, a < n → tb a < 256 ∧ Mi S (xb + 22) 36 a = nI (tb a) ∧ mi S (xb + 5) a = sb (tb a) := by
      have hc : ∀ a, ∃ v, a < n → v < 256 ∧ Mi S (xb + 22) 36 a = nI v ∧ mi S (xb + 5) a = sb v := fun a => by
        by_cases e : a < n
        · obtain ⟨v, v1, v2, v3⟩ := t4 a e
          exact ⟨v, fun _ => ⟨v1, v2, v3⟩⟩
        · exact ⟨0, fun z => absurd z e⟩
      exact ⟨fun a => (hc a).choose, fun a => (hc a).choose_spec⟩
    have hB : BTc S xb tb n := ⟨t1, fun a ha => ⟨(htb a ha).2.2, (htb a ha).1⟩⟩
    obtain ⟨T, r, la, l, ts, f, u1, u2, u3, u4, u5, u6, u7, u8, u9, u10, u11, u12, u13, u14⟩ := X_run (i := i) b t2 hB hi hc1 hs1
    have rk : ∀ Z, Fr (Px9 xb) S Z → MOK Z (xb + 22) → LT0 Z → RKm (xb + 22) tb n ts Z := fun Z q mZ lZ => by
      have e := fun o ho => (Fr_m_of b q (fun a c => by unfold Px9 at c; omega) o ho).1
      refine ⟨mZ, lZ, ⟨t1, ?_, fun a ha => ⟨?_, (htb a ha).1⟩⟩, u1, u2⟩
      · have e0 : mi Z (xb + 22) = mi S (xb + 22) := e 0 (by omega)
        rw [e0]; exact t3
      · have e0 : mi Z (xb + 22 + 36) = mi S (xb + 22 + 36) := e 36 (by omega)
        rw [e0]; exact (htb a ha).2.1
    have FT : Fr (Px9 xb) S T := u6.mono (fun z _ hz => Or.inl hz)
    obtain ⟨T0, -, p0, q0, -⟩ := M_run (i := i) (rk T FT u9.2.1 u9.2.2.1) hi
    obtain ⟨U, eU, wU⟩ : ∃ U, f_X7_readLines_6 FU T r 0 = some U ∧ SW (Pc r la) T U := by
      rcases J_all (nI i) u3 u4 u5 p0 q0 with ⟨U, -, -, -, z1, -, z2, -⟩ | ⟨U, -, -, -, z1, -, z2, -⟩
      · exact ⟨U, z1, z2⟩
      · exact ⟨U, z1, z2⟩
    obtain ⟨V, hV⟩ : ∃ V, V = setI (setI U xb 10 (mi U r 1)) xb 11 (mi U r 2) := ⟨_, rfl⟩
    obtain ⟨bV, FV, kV, lV, rV, mV', m10, m11, mx, nV, sV, capV⟩ := X_aft b u3.1 u6 u9 u10 u11 wU hV
    obtain ⟨runO, runF⟩ := u14 U V eU wU hV
    have kU := u3.1.sw wU
    have FV9 : Fr (Px9 xb) S V := FV.mono (fun z _ hz => Or.inl hz)
    by_cases c : mi U r 1 = 0
    · -- the law was read
      obtain ⟨W, hW⟩ : ∃ W, W = setR V (xb + 9) i (some la) := ⟨_, rfl⟩
      have bW : BS W xb := by rw [hW]; exact bV.law i
      have FW9 : Fr (Px9 xb) S W := by
        rw [hW]
        exact FV9.sR (a := xb + 9) i _ (by rw [xK_laws bV.2.2.1]; omega) (fun _ => Or.inr rfl)
      have run := runO c
      rw [← hW] at run
      refine ⟨_, W, run, ?_⟩
      have mW : mi W = mi V := by rw [hW]; rfl
      have rW : ∀ a, a ≠ xb + 9 → mr W a = mr V a := fun a ha => by
        rw [hW]
        funext y
        rw [mr_setR_i, if_neg (fun z => ha z.1)]
      have rWi : ∀ y, y ≠ i → mr W (xb + 9) y = mr V (xb + 9) y := fun y hy => by rw [hW, mr_setR_i, if_neg (fun z => hy z.2)]
      have rW9 : mr W (xb + 9) i = some la := by rw [hW, mr_setR_i, if_pos ⟨rfl, rfl⟩]
      have kW : kd W = kd U := by rw [hW, kd_setR, kV]
      have lW : ln W = ln U := by rw [hW, ln_setR, lV]
      have nW : nx W = nx V := by rw [hW]; rfl
      have sW : sl W = sl V := by rw [hW]; rfl
      have capW : cap W = cap V := by rw [hW]; rfl
      clear hW
      obtain ⟨T1, w1, p1, q1, rest⟩ := M_run (i := i) (rk W FW9 bW.2.2.2.1 bW.2.2.2.2.1) hi
      rcases J_all (nI i) u3 u4 u5 p1 q1 with ⟨U', T2, cc', WW, z1, z2, z3, z4, z5⟩ | ⟨U', T2, fl, fp, z1, z2, z3, z4, z5, -⟩
      · have eUU : U' = U := Option.some.inj (z1.symm.trans eU)
        subst eUU
        obtain ⟨y1, y2, y3, ⟨d, y4⟩, y5, y6, y7, y8, y9, y10⟩ := z5
        have ylt : cc' < ts.length := y1.2.1
        obtain ⟨S2, x3, v1, v2, v3, v4, v5, v6, v7, v8, v9⟩ := M_rO hi y4 y5 y6 y7 y8 (by omega)
        refine ⟨S2, ?_, ?_⟩
        · rw [y3]
          exact rest T2 1 _ z2 v1
        · have ww : SW (Pqm xb) W S2 := ((w1.1.tr z4.1).mono (fun z hz => by unfold Pr at hz; unfold Pqm; omega)).tr (v2.mono (fun z hz => by unfold PRm PTk at hz; unfold Pqm; omega))
          have wm : SW (Pm xb) W S2 := ww.mono (fun z hz => by unfold Pqm at hz; unfold Pm; omega)
          have row : ∀ o, 1 ≤ o → o < 60 → (o < 20 ∨ 35 < o) → Mi S2 (xb + 22) o = Mi S (xb + 22) o ∧ Ml S2 (xb + 22) o = Ml S (xb + 22) o := fun o o1 o2 o3 => by
            have e := Fr_m_of b FW9 (fun a c => by unfold Px9 at c; omega) o o2
            have e2 := ww.2.2.2 (xb + 22 + o) (fun z => by unfold Pqm at z; omega)
            exact ⟨e2.1.trans e.1, e2.2.trans e.2⟩
          have fld : ∀ y, (y < 42 ∨ 54 < y) → Mi S2 (xb + 22) 0 y = Mi S (xb + 22) 0 y := fun y hy => by
            have e : mi W (xb + 22) = mi S (xb + 22) := (Fr_m_of b FW9 (fun a c => by unfold Px9 at c; omega) 0 (by omega)).1
            show mi S2 (xb + 22) y = mi S (xb + 22) y
            rw [v3 y (by omega) (by omega) (by omega), z4.2 y (by omega), w1.2 y (by omega), e]
          have blk : ∀ o, 20 ≤ o → o ≤ 29 → ∀ y, (y < rbk o * i ∨ rbk o * i + rbk o ≤ y) → Mi S2 (xb + 22) o y = Mi S (xb + 22) o y := fun o o1 o2 y hy => by
            have e : mi W (xb + 22 + o) = mi S (xb + 22 + o) := (Fr_m_of b FW9 (fun a c => by unfold Px9 at c; omega) o (by omega)).1
            show mi S2 (xb + 22 + o) y = mi S (xb + 22 + o) y
            rw [v7 o o1 o2 y hy, ((w1.1.tr z4.1).2.2.2 (xb + 22 + o) (fun z => by unfold Pr at z; omega)).1, e]
          have mfx : ∀ y, y ≠ 10 → y ≠ 11 → mi W xb y = mi T xb y := fun y h1 h2 => by rw [mW]; exact mx y h1 h2
          refine h.fin (S1 := W) (M' := Mi S2 (xb + 22)) (L' := Ml S2 (xb + 22)) (j.rd FW9 bW (fun y h1 h2 h3 => by rw [mfx y h2 h3]; exact u8 y h1) (by rw [mfx 7 (by omega) (by omega)]; exact u7) ?_ ?_ v4 (fun o o1 o2 o3 => (row o o1 o2 o3).1) (fun y hy => fld y ?_) ⟨(row 42 (by omega) (by omega) (by omega)).2, (row 54 (by omega) (by omega) (by omega)).2, (row 55 (by omega) (by omega) (by omega)).2⟩ ?_) (by rw [capW, capV]) (by rw [nW, nV]; omega) (by rw [sW, sV]; omega) (wm.fm bW.2.2.2.1) wm.mr wm.nx wm.sl (PeqI.rf _) (PeqL.rf _)
          · rw [mW, m10, c]; exact v5.symm
          · rw [mW, m11, y1.2.2.2.1]; exact v6.symm
          · revert y; decide
          · intro s' hs'
            by_cases es : s' = i
            · subst es
              exact ⟨la, rW9, LO_new y1 y2 y7 v8 v9 (by omega) kW lW (fun a ha => by rw [mW]; exact mV' a ha) (fun a ha => by rw [rW a ha, rV])⟩
            · obtain ⟨la', l1, l2⟩ := cl s' hs'
              refine ⟨la', ?_, l2.r9 b FW9 (fun o o1 o2 y h1 h2 => blk o o1 o2 y ?_)⟩
              · have e9 : mr V (xb + 9) = mr S (xb + 9) := (FV.2.2 (xb + 9) (by omega) (by omega)).2.2
                rw [rWi s' es, e9]; exact l1
              · rcases Nat.lt_or_ge s' i with z | z
                · left
                  have := Nat.mul_le_mul_left (rbk o) (show s' + 1 ≤ i from z)
                  rw [Nat.mul_add, Nat.mul_one] at this
                  omega
                · right
                  have := Nat.mul_le_mul_left (rbk o) (show i + 1 ≤ s' by omega)
                  rw [Nat.mul_add, Nat.mul_one] at this
                  omega
      · have eUU : U' = U := Option.some.inj (z1.symm.trans eU)
        subst eUU
        exact absurd (z5.2.2.1.symm.trans c) z5.2.1
    · -- a fault
      refine ⟨_, V, runF c, ?_⟩
      obtain ⟨T1, w1, p1, q1, rest⟩ := M_run (i := i) (rk V FV9 bV.2.2.2.1 bV.2.2.2.2.1) hi
      rcases J_all (nI i) u3 u4 u5 p1 q1 with ⟨U', T2, cc', WW, z1, z2, z3, z4, z5⟩ | ⟨U', T2, fl, fp, z1, z2, z3, z4, z5, z6, z7⟩
      · have eUU : U' = U := Option.some.inj (z1.symm.trans eU)
        subst eUU
        exact absurd z5.1.2.2.1 c
      · have eUU : U' = U := Option.some.inj (z1.symm.trans eU)
        subst eUU
        have m2 : MOK T2 (xb + 22) := (bV.2.2.2.1.sw w1.1).sw z4.1
        obtain ⟨S2, v1, v2, v3, v4, v5, v6⟩ := M_rF m2 (nI i)
        refine ⟨S2, rest T2 0 _ z2 v1, ?_⟩
        have ww : SW (Pqm xb) V S2 := ((w1.1.tr z4.1).mono (fun z hz => by unfold Pr at hz; unfold Pqm; omega)).tr (v2.mono (fun z hz => by unfold Pqm; omega))
        have wm : SW (Pm xb) V S2 := ww.mono (fun z hz => by unfold Pqm at hz; unfold Pm; omega)
        have row : ∀ o, 1 ≤ o → o < 60 → (o < 30 ∨ 35 < o) → Mi S2 (xb + 22) o = Mi S (xb + 22) o ∧ Ml S2 (xb + 22) o = Ml S (xb + 22) o := fun o o1 o2 o3 => by
          have e := Fr_m_of b FV9 (fun a c => by unfold Px9 at c; omega) o o2
          have e1 := (w1.1.tr z4.1).2.2.2 (xb + 22 + o) (fun z => by unfold Pr at z; omega)
          have e2 := v2.2.2.2 (xb + 22 + o) (fun z => by omega)
          exact ⟨(e2.1.trans e1.1).trans e.1, (e2.2.trans e1.2).trans e.2⟩
        have fld : ∀ y, (y < 42 ∨ 54 < y) → Mi S2 (xb + 22) 0 y = Mi S (xb + 22) 0 y := fun y hy => by
          have e : mi V (xb + 22) = mi S (xb + 22) := (Fr_m_of b FV9 (fun a c => by unfold Px9 at c; omega) 0 (by omega)).1
          show mi S2 (xb + 22) y = mi S (xb + 22) y
          rw [v3 y (by omega) (by omega) (by omega), z4.2 y (by omega), w1.2 y (by omega), e]
        refine h.fin (S1 := V) (M' := Mi S2 (xb + 22)) (L' := Ml S2 (xb + 22)) (j.rd FV9 bV (fun y h1 h2 h3 => by rw [mx y h2 h3]; exact u8 y h1) (by rw [mx 7 (by omega) (by omega)]; exact u7) ?_ ?_ v4 (fun o o1 o2 o3 => (row o o1 o2 (by omega)).1) (fun y hy => fld y ?_) ⟨(row 42 (by omega) (by omega) (by omega)).2, (row 54 (by omega) (by omega) (by omega)).2, (row 55 (by omega) (by omega) (by omega)).2⟩ ?_) capV (by rw [nV]; omega) (by rw [sV]; omega) (wm.fm bV.2.2.2.1) wm.mr wm.nx wm.sl (PeqI.rf _) (PeqL.rf _)
        · rw [m10, z5.2.2.1]
          exact (v5.trans z6).symm
        · rw [m11, z5.2.2.2.1]
          exact (v6.trans z7).symm
        · revert y; decide
        · intro s' hs'
          obtain ⟨la', l1, l2⟩ := cl s' hs'
          have e9 : mr V (xb + 9) = mr S (xb + 9) := (FV.2.2 (xb + 9) (by omega) (by omega)).2.2
          exact ⟨la', by rw [e9]; exact l1, l2.r9 b FV9 (fun o o1 o2 y h1 h2 => by rw [(row o (by omega) (by omega) (by omega)).1])⟩
  · -- no state
    refine ⟨-1, setI S xb 7 0, ?_, setI (setI S xb 7 0) (xb + 22) 44 0, ?_, ?_⟩
    · unfold f_X11_reads
      simp only [xI x, xP x, Option.bind_some, xR_laws (x.si xb 7 0), xZ_laws (x.si xb 7 0), X_isWithin, i01, Int32.reduceToInt]
      rw [if_pos (by omega)]
    · unfold f_X12_reads
      simp only [M_isState, Option.bind_some, i01, mP (m.si xb 7 0)]
      rw [if_pos (by omega)]
    · have F : Fr (fun a => a = xb) S (setI S xb 7 0) := Fr_setI 7 _ (by rw [x.1]; omega) (fun _ => rfl)
      refine h.fin (M' := up2 (Mi S (xb + 22)) 0 44 0) (L' := Ml S (xb + 22)) (j.go7 F (b.si 7 _ (by rw [x.1]; omega)) (fun a e => by subst e; have := x.1; unfold okq; omega) (by rw [mi_setI_i, if_neg (by omega)]) (QeqI.up (by decide) (by decide)) (PeqL.rf _) ?_ ?_ (cy.go (by funext i; rw [mi_setI_i, if_neg (by omega)]) rfl)) rfl (by rw [nx_setI]; omega) (by rw [sl_setI]; omega) (Fr_m0 (m.si xb 7 0) 44 _) rfl rfl rfl ?_ (PeqL.rf _)
      · unfold C0
        rw [mi_setI_i, mi_setI_i, mi_setI_i, if_neg (by omega), if_neg (by omega), if_neg (by omega)]
        exact c0
      · refine ⟨0, by omega, by rw [mi_setI_i, if_pos ⟨rfl, rfl⟩]; rfl, by rw [up2_eq]; rfl, fun i hi => by omega⟩
      · rw [Mi_setI0]
        exact (PeqI_of (fun o ho => by funext i; exact Mi_x 7 _ (by omega) o i ho)).up 0 44 _
end Ord
