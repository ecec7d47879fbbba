/-! claim -/
theorem X_isHeld {S : St} {a : Nat} (hk : kd S a = 1) : f_X0_isHeld S a = some (if mi S a 7 = -1 then 0 else 1) := by
  unfold f_X0_isHeld
  simp only [getI_s hk, Option.bind_some]
  split <;> rfl
theorem i10 {A : Prop} [Decidable A] : ((if A then (0 : Int32) else 1) = 0) = A := by
  by_cases c : A
  · simp [c]
  · simp [c]
theorem M_isHeld {S : St} {mb na q : Nat} (m : MOK S mb) (h : mi S mb 3 = nI na) (hn : na ≤ 40) (hq : q < na) : f_X12_isHeld S mb (nI q) = some (if Mi S mb 39 q = -1 then 0 else 1) := by
  unfold f_X12_isHeld
  simp only [mV m, M_isAccount m h (by omega) hq, Option.bind_some, mR_heldBy m, mL_heldBy m (show q < 40 by omega)]
  rw [if_neg (by decide)]
  show (if Mi S mb 39 q = -1 then _ else _) = _
  split <;> rfl
theorem M_isHeld_n {S : St} {mb na : Nat} {d : Int32} (m : MOK S mb) (h : mi S mb 3 = nI na) (hn : na ≤ 40) (hq : ¬ (0 ≤ d.toInt ∧ d.toInt < na)) : f_X12_isHeld S mb d = some 0 := by
  unfold f_X12_isHeld
  simp only [mV m, M_isAccount_n m h (by omega) hq, Option.bind_some, if_true]
theorem X2_init {T : St} {a : Nat} (p q : Option Nat) (n s : Int32) (hk : kd T a = 3) : ∃ T', f_X2_init T a p q n s = some T' ∧ kd T' = kd T ∧ ln T' = ln T ∧ mr T' a 0 = p ∧ mr T' a 1 = q ∧ mi T' a 2 = n ∧ mi T' a 3 = s ∧ mi T' a 4 = 0 ∧ ml T' a 5 = 0 ∧ ml T' a 6 = 0 ∧ nx T' = nx T ∧ sl T' = sl T ∧ Fr (fun z => z = a) T T' := by
  unfold f_X2_init
  rw [putI_s hk]
  simp only [Option.bind_some]
  rw [putL_s (show kd (setI T a 4 0) a = 3 from hk)]
  simp only [Option.bind_some]
  rw [putL_s (show kd (setL (setI T a 4 0) a 5 0) a = 3 from hk)]
  simp only [Option.bind_some]
  rw [putR_s (show kd (setL (setL (setI T a 4 0) a 5 0) a 6 0) a = 3 from hk)]
  simp only [Option.bind_some]
  rw [putR_s (show kd (setR (setL (setL (setI T a 4 0) a 5 0) a 6 0) a 0 p) a = 3 from hk)]
  simp only [Option.bind_some]
  rw [putI_s (show kd (setR (setR (setL (setL (setI T a 4 0) a 5 0) a 6 0) a 0 p) a 1 q) a = 3 from hk)]
  simp only [Option.bind_some]
  rw [putI_s (show kd (setI (setR (setR (setL (setL (setI T a 4 0) a 5 0) a 6 0) a 0 p) a 1 q) a 2 n) a = 3 from hk)]
  simp only [Option.bind_some]
  refine ⟨_, rfl, rfl, rfl, ?_, ?_, ?_, ?_, ?_, ?_, ?_, rfl, rfl, ?_⟩
  · simp [mr_setI_, mr_setR_i]
  · simp [mr_setI_, mr_setR_i]
  · simp [mi_setI_i]
  · simp [mi_setI_i]
  · simp [mi_setI_i, mi_setR_, mi_setL_]
  · simp [ml_setI_, ml_setR_, ml_setL_i]
  · simp [ml_setI_, ml_setR_, ml_setL_i]
  · have k20 : kd T a ≤ 20 := by omega
    exact (((((((Fr.rf (fun z => z = a) T).sI (a := a) 4 0 k20 (fun _ => rfl)).sL (a := a) 5 0 (fun _ => rfl)).sL (a := a) 6 0 (fun _ => rfl)).sR (a := a) 0 p k20 (fun _ => rfl)).sR (a := a) 1 q k20 (fun _ => rfl)).sI (a := a) 2 n k20 (fun _ => rfl)).sI (a := a) 3 s k20 (fun _ => rfl)
theorem op_claim {S : St} {xb k : Nat} (h : JJ S xb (k + 1)) (p a pt fe : Int32) : ∃ r S1, f_X11_claim S xb p a pt fe = some (r, S1) ∧ ∃ S2, f_X12_claim S1 (xb + 22) p a pt fe = some (r, S2) ∧ JJ S2 xb k := by
  obtain ⟨⟨g', j⟩, rm1, rm2⟩ := id h
  obtain ⟨nf, fa, np, pa, na, aa, ne, ea, il, nc, ca, rfl, b, c0, ct, cy, cf, cp, cn, ca', ce, cc, cl⟩ := j.op
  have x := b.2.2.1
  have m := b.2.2.2.1
  obtain ⟨p1, p2, p3, p4⟩ := id cp
  obtain ⟨a1, a2, a3, a4⟩ := id ca'
  obtain ⟨q1, q2, q3, q4, q5⟩ := id cc
  have p1 : mi S (xb + 22) 2 = nI np := p1
  have a1 : mi S (xb + 22) 3 = nI na := a1
  have q1 : mi S (xb + 22) 69 = nI nc := q1
  rcases ixc p (n := np) (by omega) with ⟨i, hi, rfl⟩ | c1
  · have hk := (p4 i hi).1
    rcases ixc a (n := na) (by omega) with ⟨o, ho, rfl⟩ | c2
    · have hko := (a4 o ho).1
      have e7 : mi S (aa o) 7 = Mi S (xb + 22) 39 o := (a4 o ho).2.2.2.2.2.2.2.2.2.2.2.1
      by_cases cOK : Mi S (xb + 22) 39 o ≠ -1 ∧ nc < 60 ∧ (0 ≤ pt.toInt ∧ pt.toInt < 100) ∧ (0 ≤ fe.toInt ∧ fe.toInt < 101)
      · obtain ⟨d1, d2, d3, d4⟩ := cOK
        unfold f_X11_claim
        simp only [xV x, X_personAt x p3 hk hi, X_accountAt x a3 hko ho, Option.bind_some, if_neg (show ¬ (some (pa i) = none) by simp), if_neg (show ¬ (some (aa o) = none) by simp), rcv_s hko, X_isHeld hko, i10, e7, xR_claims x, xV_claims x, L_size q3, X_isWithin, i01, Int32.reduceToInt]
        rw [if_neg d1, if_pos (by rw [lt_i, nI_toInt (by omega)]; simp only [Int32.reduceToInt]; omega), if_neg (fun q => q d3), if_neg (fun q => q d4)]
        have hf3 : nfl 3 = 7 := rfl
        rw [newO_s (by omega) (by rw [hf3]; omega)]
        simp only [Option.bind_some]
        have w := b.1
        have F1 : Fr (fun _ => False) S (mk0 S (nfl 3) 3 0) := Fr_mk0 S _ 3 0
        have k1 : kd (mk0 S (nfl 3) 3 0) (nx S) = 3 := by rw [kd_mk0, if_pos rfl]
        obtain ⟨T, g1, g2, g3, g4, g5, g6, g7, g8, g9, g10, g11, g12, g13⟩ := X2_init (some (pa i)) (some (aa o)) pt fe k1
        simp only [rcv_s k1, g1, Option.bind_some]
        rw [nx_mk0] at g11
        rw [sl_mk0, hf3] at g12
        have F2 : Fr (fun _ => False) S T := F1.tr g13 (fun a h1 h2 => by omega)
        have kN : kd T (nx S) = 3 := by rw [g2, k1]
        have kT : ∀ a, nx S ≤ a → kd T a ≠ 0 := fun a ha => by
          by_cases e1 : a = nx S
          · rw [e1, kN]; omega
          · rw [F2.2.1 w a (by omega)]; omega
        have bT : BS T xb := b.al F2 kT
        have jT := j.al F2 bT
        obtain ⟨-, c0T, ctT, cyT, cfT, cpT, cnT, caT, ceT, ccT, clT⟩ := jT.un
        have xT := bT.2.2.1
        have lT : LI T (xb + 4) nc ca := ccT.2.2.1
        obtain ⟨U, u1, u2, u3, u4, u5, u6, u7, u8⟩ := L_add lT bT.1 (v := nx S) (by omega) (by omega) (by rw [F2.capE]; omega) (by omega)
        have hl := xK_claims xT
        have bU := bT.ga hl u3 (u6 bT.2.1)
        have xU := bU.2.2.1
        have mU := bU.2.2.2.1
        simp only [xV_claims xT, u1, Option.bind_some, xR_claims xU, xV_claims xU, L_size u2, nI_pred]
        have hP : ∀ a, (a = xb + 4 ∨ mr T (xb + 4) 1 = some a ∧ kd T a = 20) → kd T a = 0 ∨ kd T a = 20 := fun a e => by
          rcases e with e | e
          · left; rw [e]; exact hl
          · right; exact e.2
        have uA := u3.at bT.1 kN (by omega) (fun c => by have := hP _ c; omega)
        refine ⟨_, _, rfl, ?_⟩
        have eU : ∀ o, o < 60 → Mi U (xb + 22) o = Mi S (xb + 22) o ∧ Ml U (xb + 22) o = Ml S (xb + 22) o := fun o ho => by
          have h1 := Pl_m bT hl u3 o ho
          have h2 := Fr_m_of b F2 (fun _ c => c.elim) o ho
          exact ⟨h1.1.trans h2.1, h1.2.trans h2.2⟩
        have f0 : ∀ z, mi U (xb + 22) z = mi S (xb + 22) z := fun z => congrFun (eU 0 (by omega)).1 z
        refine ⟨setI (setI (setI (setI (setI U (xb + 22 + 49) nc (nI i)) (xb + 22 + 50) nc (nI o)) (xb + 22 + 51) nc pt) (xb + 22 + 52) nc fe) (xb + 22) 69 (nI nc + 1), ?_, ?_⟩
        · have m1 := mU.si (xb + 22 + 49) nc (nI i)
          have m2 := m1.si (xb + 22 + 50) nc (nI o)
          have m3 := m2.si (xb + 22 + 51) nc pt
          have m4 := m3.si (xb + 22 + 52) nc fe
          have m5 := m4.si (xb + 22) 69 (nI nc + 1)
          have hc60 : nc < 60 := d2
          have e1 : mi (setI U (xb + 22 + 49) nc (nI i)) (xb + 22) 69 = nI nc := by rw [mi_setI_i, if_neg (by omega), f0, q1]
          have e2 : mi (setI (setI U (xb + 22 + 49) nc (nI i)) (xb + 22 + 50) nc (nI o)) (xb + 22) 69 = nI nc := by rw [mi_setI_i, if_neg (by omega), e1]
          have e3 : mi (setI (setI (setI U (xb + 22 + 49) nc (nI i)) (xb + 22 + 50) nc (nI o)) (xb + 22 + 51) nc pt) (xb + 22) 69 = nI nc := by rw [mi_setI_i, if_neg (by omega), e2]
          have e4 : mi (setI (setI (setI (setI U (xb + 22 + 49) nc (nI i)) (xb + 22 + 50) nc (nI o)) (xb + 22 + 51) nc pt) (xb + 22 + 52) nc fe) (xb + 22) 69 = nI nc := by rw [mi_setI_i, if_neg (by omega), e3]
          have e9 : Mi U (xb + 22) 39 o = Mi S (xb + 22) 39 o := congrFun (eU 39 (by omega)).1 o
          unfold f_X12_claim
          simp only [mV mU, M_isPerson mU ((f0 2).trans p1) (by omega) hi, M_isHeld mU ((f0 3).trans a1) (by omega) ho, Option.bind_some, i10, e9, M_isIn, i01, Int32.reduceToInt, mI mU, f0, q1]
          rw [if_neg (by decide), if_neg d1, if_neg (by omega), if_neg (by omega), if_neg (by rw [show (60 : Int32) = nI 60 from rfl, nI_eq (by omega) (by omega)]; omega)]
          simp only [mR_claimBy mU, mS_claimBy mU hc60, nrw15, Option.bind_some, mR_claimOn m1, mI m1, e1, mS_claimOn m1 hc60, mR_claimPoints m2, mI m2, e2, mS_claimPoints m2 hc60, mR_claimFee m3, mI m3, e3, mS_claimFee m3 hc60, mI m4, e4, mP m4, mI m5]
          rw [mi_setI_i, if_pos ⟨rfl, rfl⟩, nI_1, nI_pred]
        · have M3 : PeqI (up2 (up2 (up2 (up2 (up2 (Mi S (xb + 22)) 49 nc (nI i)) 50 nc (nI o)) 51 nc pt) 52 nc fe) 0 69 (nI (nc + 1))) (Mi (setI (setI (setI (setI (setI U (xb + 22 + 49) nc (nI i)) (xb + 22 + 50) nc (nI o)) (xb + 22 + 51) nc pt) (xb + 22 + 52) nc fe) (xb + 22) 69 (nI nc + 1)) (xb + 22)) := by
            rw [Mi_setI0, Mi_setI, Mi_setI, Mi_setI, Mi_setI, nI_1]
            exact (((((PeqI_of (fun o ho => (eU o ho).1)).up 49 nc _).up 50 nc _).up 51 nc _).up 52 nc _).up 0 69 _
          have caU : cap U = cap S := by rw [u3.capE, F2.capE]
          refine h.fin (M' := up2 (up2 (up2 (up2 (up2 (Mi S (xb + 22)) 49 nc (nI i)) 50 nc (nI o)) 51 nc pt) 52 nc fe) 0 69 (nI (nc + 1))) (L' := Ml S (xb + 22)) (g := ((nf, fa), (np, pa), (na, aa), (ne, ea, il), (nc + 1, up1 ca nc (nx S)))) (JX.mk bU (c0T.ga bT hl u3 ⟨rfl, rfl, rfl⟩) (ctT.ga bT hl u3 rfl rfl) (cyT.ga bT hl u3 rfl) (cfT.ga bT hl u3 (by omega) rfl rfl rfl rfl rfl) (cpT.ga bT hl u3 (by omega) rfl rfl rfl rfl rfl rfl rfl) (cnT.ga cpT bT hl u3 rfl rfl) (caT.ga bT hl u3 (by omega) rfl (Int.le_refl _) rfl rfl rfl rfl rfl rfl rfl rfl) (ceT.ga bT hl u3 (fun a ha => by have := (caT.2.2.2 a ha).2.1; omega) rfl rfl rfl rfl rfl rfl rfl) ?_ (clT.ga bT hl u3 rfl rfl rfl rfl rfl rfl rfl rfl rfl rfl)) caU (by omega) (by omega) (((((Fr_m mU (by omega) nc _).m2 (Fr_m (mU.si _ _ _) (by omega) nc _)).m2 (Fr_m ((mU.si _ _ _).si _ _ _) (by omega) nc _)).m2 (Fr_m (((mU.si _ _ _).si _ _ _).si _ _ _) (by omega) nc _)).m2 (Fr_m0 ((((mU.si _ _ _).si _ _ _).si _ _ _).si _ _ _) 69 _)) rfl rfl rfl M3 (PeqL_of (fun o ho => (eU o ho).2))
          refine ⟨rfl, by omega, u2, fun z hz => ?_, fun z z1 z2 => q5 z (by omega) z2⟩
          by_cases ez : z = nc
          · subst ez
            obtain ⟨r1, r2, r3⟩ := q5 z (Nat.le_refl _) d2
            unfold KO
            rw [up1_eq, uA.1, uA.2.2.1, uA.2.2.2.1, uA.2.2.2.2, g4, g5, g6, g7, g8, g9, g10]
            refine ⟨kN, by have := b.2.2.2.2.2; omega, ⟨i, hi, ?_, rfl⟩, ⟨o, ho, ?_, rfl, d1⟩, ?_, ?_, ?_, ?_, r1.symm, r2.symm, r3.symm, fun d hd => ?_⟩
            · rw [up2_ne _ (by decide), up2_ne _ (by decide), up2_ne _ (by decide), up2_ne _ (by decide), up2_eq]
            · rw [up2_ne _ (by decide), up2_ne _ (by decide), up2_ne _ (by decide), up2_eq]
            · rw [up2_ne _ (by decide), up2_ne _ (by decide), up2_eq]
            · rw [up2_ne _ (by decide), up2_eq]
            · rw [up2_ne _ (by decide), up2_eq]; exact d4.1
            · rw [up2_ne _ (by decide), up2_eq]; omega
            · rw [up1_ne _ (by omega)]
              intro e
              have k3 := (q4 d hd).1
              rw [e, w (nx S) (Nat.le_refl _)] at k3
              omega
          · have hz' : z < nc := by omega
            have o1 := ccT.2.2.2.1 z hz'
            have o2 : KO U xb (Mi S (xb + 22)) (Ml S (xb + 22)) np pa na aa ca z := o1.go bT.1 u3 (fun c => by have := hP _ c; have := o1.1; omega) (fun _ _ q => q) rfl rfl rfl rfl rfl rfl rfl
            unfold KO at o2 ⊢
            have v1 : up2 (up2 (up2 (up2 (up2 (Mi S (xb + 22)) 49 nc (nI i)) 50 nc (nI o)) 51 nc pt) 52 nc fe) 0 69 (nI (nc + 1)) 49 z = Mi S (xb + 22) 49 z := by rw [up2_ne _ (by decide), up2_ne _ (by decide), up2_ne _ (by decide), up2_ne _ (by decide), up2_nk _ ez]
            have v2 : up2 (up2 (up2 (up2 (up2 (Mi S (xb + 22)) 49 nc (nI i)) 50 nc (nI o)) 51 nc pt) 52 nc fe) 0 69 (nI (nc + 1)) 50 z = Mi S (xb + 22) 50 z := by rw [up2_ne _ (by decide), up2_ne _ (by decide), up2_ne _ (by decide), up2_nk _ ez, up2_ne _ (by decide)]
            have v3 : up2 (up2 (up2 (up2 (up2 (Mi S (xb + 22)) 49 nc (nI i)) 50 nc (nI o)) 51 nc pt) 52 nc fe) 0 69 (nI (nc + 1)) 51 z = Mi S (xb + 22) 51 z := by rw [up2_ne _ (by decide), up2_ne _ (by decide), up2_nk _ ez, up2_ne _ (by decide), up2_ne _ (by decide)]
            have v4 : up2 (up2 (up2 (up2 (up2 (Mi S (xb + 22)) 49 nc (nI i)) 50 nc (nI o)) 51 nc pt) 52 nc fe) 0 69 (nI (nc + 1)) 52 z = Mi S (xb + 22) 52 z := by rw [up2_ne _ (by decide), up2_nk _ ez, up2_ne _ (by decide), up2_ne _ (by decide), up2_ne _ (by decide)]
            rw [up1_ne _ ez, v1, v2, v3, v4]
            obtain ⟨t1, t2, t3, t4, t5, t6, t7, t8, t9, t10, t11, t12⟩ := o2
            exact ⟨t1, t2, t3, t4, t5, t6, t7, t8, t9, t10, t11, fun d hd => by rw [up1_ne _ (by omega)]; exact t12 d hd⟩
      · refine ⟨-1, S, ?_, S, ?_, h.le⟩
        · unfold f_X11_claim
          simp only [xV x, X_personAt x p3 hk hi, X_accountAt x a3 hko ho, Option.bind_some, if_neg (show ¬ (some (pa i) = none) by simp), if_neg (show ¬ (some (aa o) = none) by simp), rcv_s hko, X_isHeld hko, i10, e7, xR_claims x, xV_claims x, L_size q3, X_isWithin, i01, Int32.reduceToInt]
          by_cases d1 : Mi S (xb + 22) 39 o = -1
          · rw [if_pos d1]
          · rw [if_neg d1]
            by_cases d2 : nc < 60
            · rw [if_pos (by rw [lt_i, nI_toInt (by omega)]; simp only [Int32.reduceToInt]; omega)]
              by_cases d3 : 0 ≤ pt.toInt ∧ pt.toInt < 100
              · rw [if_neg (fun q => q d3), if_pos (fun q => cOK ⟨d1, d2, d3, q⟩)]
              · rw [if_pos d3]
            · rw [if_neg (by rw [lt_i, nI_toInt (by omega)]; simp only [Int32.reduceToInt]; omega)]
        · unfold f_X12_claim
          simp only [mV m, M_isPerson m p1 (by omega) hi, M_isHeld m a1 (by omega) ho, Option.bind_some, i10, M_isIn, i01, Int32.reduceToInt, mI m, q1]
          rw [if_neg (by decide)]
          by_cases d1 : Mi S (xb + 22) 39 o = -1
          · rw [if_pos d1]
          · rw [if_neg d1]
            by_cases d3 : 0 ≤ pt.toInt ∧ pt.toInt ≤ 99
            · rw [if_neg (fun q => q d3)]
              by_cases d4 : 0 ≤ fe.toInt ∧ fe.toInt ≤ 100
              · rw [if_neg (fun q => q d4)]
                by_cases d2 : nc < 60
                · exact absurd ⟨d1, d2, by omega, by omega⟩ cOK
                · rw [if_pos (by rw [show nc = 60 by omega]; rfl)]
              · rw [if_pos d4]
            · rw [if_pos d3]
    · refine ⟨-1, S, ?_, S, ?_, h.le⟩
      · unfold f_X11_claim
        simp only [xV x, X_personAt x p3 hk hi, X_accountAt_n x a3 c2, Option.bind_some, if_neg (show ¬ (some (pa i) = none) by simp), if_true]
      · unfold f_X12_claim
        simp only [mV m, M_isPerson m p1 (by omega) hi, M_isHeld_n m a1 (by omega) c2, Option.bind_some, if_true]
        rw [if_neg (by decide)]
  · refine ⟨-1, S, ?_, S, ?_, h.le⟩
    · unfold f_X11_claim
      rcases ixc a (n := na) (by omega) with ⟨o, ho, rfl⟩ | c2
      · simp only [xV x, X_personAt_n x p3 c1, X_accountAt x a3 (a4 o ho).1 ho, Option.bind_some, if_true]
      · simp only [xV x, X_personAt_n x p3 c1, X_accountAt_n x a3 c2, Option.bind_some, if_true]
    · unfold f_X12_claim
      simp only [mV m, M_isPerson_n m p1 (by omega) c1, Option.bind_some, if_true]
