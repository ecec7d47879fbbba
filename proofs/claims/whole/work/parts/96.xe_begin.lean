/-! READS: the class begins -/
theorem X6_ini {T : St} {la len : Nat} (hk : kd T la = 7) (hla : la < nx T) (hl : 0 < len) (hl6 : len ≤ 601) (hc : nx T + 2 ≤ cap T) (hs : sl T + 4 + len ≤ 7302250) : ∃ F, f_X6_init T la (nI len) = some F ∧ (∀ z, kd F z = if z = nx T + 1 then 15 else if z = nx T then 15 else kd T z) ∧ ln F (nx T) = 4 ∧ ln F (nx T + 1) = len ∧ mr F la 1 = some (nx T) ∧ mr F la 7 = some (nx T + 1) ∧ mi F la 0 = 0 ∧ mi F la 2 = 0 ∧ mi F la 3 = 30 ∧ mi F la 4 = 10 ∧ mi F la 5 = 0 ∧ mi F la 6 = 0 ∧ mi F la 8 = 0 ∧ (∀ k, k < 4 → mi F (nx T) k = 5) ∧ nx F = nx T + 2 ∧ sl F = sl T + 4 + len ∧ (∀ z, z ≠ la → z ≠ nx T → z ≠ nx T + 1 → mr F z = mr T z) ∧ Fr (fun z => z = la) T F := by
  have ne : la ≠ nx T := by omega
  have ne1 : la ≠ nx T + 1 := by omega
  obtain ⟨A, hA⟩ : ∃ A, A = mk0 (setI T la 0 0) 4 15 4 := ⟨_, rfl⟩
  have kA : ∀ z, kd A z = if z = nx T then 15 else kd T z := fun z => by rw [hA, kd_mk0]; rfl
  have kAe : kd A (nx T) = 15 := by rw [kA, if_pos rfl]
  have kAl : kd A la = 7 := by rw [kA, if_neg ne, hk]
  have lA : ln A (nx T) = 4 := by rw [hA, ln_mk0]; exact if_pos rfl
  have fA : Fr (fun z => z = la) T A := by rw [hA]; exact ((Fr.rf (fun z => z = la) T).sI (a := la) 0 0 (by omega) (fun _ => rfl)).mk 4 15 4
  have nA : nx A = nx T + 1 := by rw [hA]; rfl
  have sA : sl A = sl T + 4 := by rw [hA]; rfl
  have rA : ∀ z, z ≠ nx T → mr A z = mr T z := fun z hz => by rw [hA]; funext j; rw [mr_mk0, nx_setI, if_neg hz]; rfl
  have mA0 : mi A la 0 = 0 := by rw [hA, mi_mk0, nx_setI, if_neg ne, mi_setI_i, if_pos ⟨rfl, rfl⟩]
  obtain ⟨B, hB⟩ : ∃ B, B = setI (setI (setI (setI A (nx T) 0 5) (nx T) 1 5) (nx T) 2 5) (nx T) 3 5 := ⟨_, rfl⟩
  have kB : kd B = kd A := by rw [hB]; rfl
  have lB : ln B = ln A := by rw [hB]; rfl
  have rB : mr B = mr A := by rw [hB]; rfl
  have hB1 : B.1 = A.1 := by rw [hB]; rfl
  have fB : Fr (fun z => z = la) T B := by
    rw [hB]
    exact (((fA.sI (a := nx T) 0 5 (by rw [kAe]; omega) (fun z => by omega)).sI (a := nx T) 1 5 (by show kd A (nx T) ≤ 20; rw [kAe]; omega) (fun z => by omega)).sI (a := nx T) 2 5 (by show kd A (nx T) ≤ 20; rw [kAe]; omega) (fun z => by omega)).sI (a := nx T) 3 5 (by show kd A (nx T) ≤ 20; rw [kAe]; omega) (fun z => by omega)
  have mB0 : mi B la 0 = 0 := by
    rw [hB, mi_setI_i, if_neg (by omega), mi_setI_i, if_neg (by omega), mi_setI_i, if_neg (by omega), mi_setI_i, if_neg (by omega)]; exact mA0
  have mBe : ∀ k, k < 4 → mi B (nx T) k = 5 := fun k hk => by
    rw [hB, mi_setI_i, mi_setI_i, mi_setI_i, mi_setI_i]
    have : k = 0 ∨ k = 1 ∨ k = 2 ∨ k = 3 := by omega
    rcases this with rfl | rfl | rfl | rfl
    · rw [if_neg (by omega), if_neg (by omega), if_neg (by omega), if_pos ⟨rfl, rfl⟩]
    · rw [if_neg (by omega), if_neg (by omega), if_pos ⟨rfl, rfl⟩]
    · rw [if_neg (by omega), if_pos ⟨rfl, rfl⟩]
    · rw [if_pos ⟨rfl, rfl⟩]
  have st0 : stI A (some (nx T)) 15 0 5 = some (setI A (nx T) 0 5) := stI_s (j := 0) kAe lA (by omega) (by decide) 5
  have st1 : stI (setI A (nx T) 0 5) (some (nx T)) 15 1 5 = some (setI (setI A (nx T) 0 5) (nx T) 1 5) := stI_s (S := setI A (nx T) 0 5) (j := 1) kAe lA (by omega) (by decide) 5
  have st2 : stI (setI (setI A (nx T) 0 5) (nx T) 1 5) (some (nx T)) 15 2 5 = some (setI (setI (setI A (nx T) 0 5) (nx T) 1 5) (nx T) 2 5) := stI_s (S := setI (setI A (nx T) 0 5) (nx T) 1 5) (j := 2) kAe lA (by omega) (by decide) 5
  have st3 : stI (setI (setI (setI A (nx T) 0 5) (nx T) 1 5) (nx T) 2 5) (some (nx T)) 15 3 5 = some B := by rw [hB]; exact stI_s (S := setI (setI (setI A (nx T) 0 5) (nx T) 1 5) (nx T) 2 5) (j := 3) kAe lA (by omega) (by decide) 5
  obtain ⟨S1, e1, k1, l1, h1, v1, n1, p1, q1, f1⟩ := puR (S := B) 1 (some (nx T)) (show kd B la = 7 by rw [kB, kAl])
  obtain ⟨S2, e2, k2, l2, h2, v2, n2, p2, q2, f2⟩ := puI (S := S1) 2 0 (show kd S1 la = 7 by rw [k1, kB, kAl])
  obtain ⟨S3, e3, k3, l3, h3, v3, n3, p3, q3, f3⟩ := puI (S := S2) 3 30 (show kd S2 la = 7 by rw [k2, k1, kB, kAl])
  obtain ⟨S4, e4, k4, l4, h4, v4, n4, p4, q4, f4⟩ := puI (S := S3) 4 10 (show kd S3 la = 7 by rw [k3, k2, k1, kB, kAl])
  obtain ⟨S5, e5, k5, l5, h5, v5, n5, p5, q5, f5⟩ := puI (S := S4) 5 0 (show kd S4 la = 7 by rw [k4, k3, k2, k1, kB, kAl])
  obtain ⟨S6, e6, k6, l6, h6, v6, n6, p6, q6, f6⟩ := puI (S := S5) 6 0 (show kd S5 la = 7 by rw [k5, k4, k3, k2, k1, kB, kAl])
  obtain ⟨S7, e7, k7, l7, h7, v7, n7, p7, q7, f7⟩ := puI (S := S6) 8 0 (show kd S6 la = 7 by rw [k6, k5, k4, k3, k2, k1, kB, kAl])
  have HH : S7.1 = A.1 := by rw [h7, h6, h5, h4, h3, h2, h1, hB1]
  have KK : kd S7 = kd A := by rw [k7, k6, k5, k4, k3, k2, k1, kB]
  have LL : ln S7 = ln A := by rw [l7, l6, l5, l4, l3, l2, l1, lB]
  have n7' : nx S7 = nx T + 1 := (congrArg (fun z => z.1) HH).trans nA
  have s7' : sl S7 = sl T + 4 := (congrArg (fun z => z.2.1) HH).trans sA
  have c7' : cap S7 = cap T := (congrArg (fun z => z.2.2.1) HH).trans fA.capE
  have FB : Fr (fun z => z = la) B S7 := ((((((f1).tr f2 (fun _ _ e => e)).tr f3 (fun _ _ e => e)).tr f4 (fun _ _ e => e)).tr f5 (fun _ _ e => e)).tr f6 (fun _ _ e => e)).tr f7 (fun _ _ e => e)
  have nB : nx B = nx T + 1 := (congrArg (fun z => z.1) hB1).trans nA
  have F7 : Fr (fun z => z = la) T S7 := fB.tr FB (fun _ _ e => e)
  obtain ⟨D, hD⟩ : ∃ D, D = mk0 S7 len 15 len := ⟨_, rfl⟩
  have eD : newA S7 15 (nI len) = some (nx T + 1, D) := by rw [newA_s (by omega) (by omega) (by omega), n7', hD]
  have kD : ∀ z, kd D z = if z = nx T + 1 then 15 else if z = nx T then 15 else kd T z := fun z => by rw [hD, kd_mk0, n7', KK, kA]
  have kDl : kd D la = 7 := by rw [kD, if_neg ne1, if_neg ne, hk]
  have FD : Fr (fun z => z = la) T D := by rw [hD]; exact F7.mk len 15 len
  have miD : ∀ z, z ≠ nx T + 1 → mi D z = mi S7 z := fun z hz => by rw [hD]; funext j; rw [mi_mk0, n7', if_neg hz]
  have mrD : ∀ z, z ≠ nx T + 1 → mr D z = mr S7 z := fun z hz => by rw [hD]; funext j; rw [mr_mk0, n7', if_neg hz]
  have lD1 : ln D (nx T) = 4 := by rw [hD, ln_mk0, n7', if_neg (by omega), LL, lA]
  have lD2 : ln D (nx T + 1) = len := by rw [hD, ln_mk0, n7', if_pos rfl]
  have nD : nx D = nx T + 2 := by rw [hD, nx_mk0, n7']
  have sD : sl D = sl T + 4 + len := by rw [hD, sl_mk0, s7']
  obtain ⟨F, e8, k8, l8, h8, v8, n8, p8, q8, f8⟩ := puR (S := D) 7 (some (nx T + 1)) kDl
  have fe : mi F (nx T) = mi B (nx T) := by
    rw [(f8.2.2 (nx T) (by rw [nD]; omega) (fun z => ne z.symm)).1, miD _ (by omega), (FB.2.2 (nx T) (by rw [nB]; omega) (fun z => ne z.symm)).1]
  have fr : ∀ z, z ≠ la → z ≠ nx T → z ≠ nx T + 1 → mr F z = mr T z := fun z z1 z2 z3 => by
    have x1 : mr F z = mr D z := by
      have := putR_s (S := D) kDl 7 (some (nx T + 1))
      rw [this] at e8
      rw [← Option.some.inj e8]
      funext j
      rw [mr_setR_i, if_neg (fun y => z1 y.1)]
    rw [x1, mrD z z3]
    have y1 : mr S7 z = mr B z := by
      have w1 : mr S1 z = mr B z := by
        have := putR_s (S := B) (show kd B la = 7 by rw [kB, kAl]) 1 (some (nx T))
        rw [this] at e1
        rw [← Option.some.inj e1]
        funext j
        rw [mr_setR_i, if_neg (fun y => z1 y.1)]
      have w2 : ∀ {S S' : St} {ci k : Nat} {v : Int32}, kd S la = ci → putI S (some la) ci k v = some S' → mr S' = mr S := fun hk he => by
        rw [putI_s hk] at he
        rw [← Option.some.inj he]
        rfl
      rw [w2 (show kd S6 la = 7 by rw [k6, k5, k4, k3, k2, k1, kB, kAl]) e7, w2 (show kd S5 la = 7 by rw [k5, k4, k3, k2, k1, kB, kAl]) e6, w2 (show kd S4 la = 7 by rw [k4, k3, k2, k1, kB, kAl]) e5, w2 (show kd S3 la = 7 by rw [k3, k2, k1, kB, kAl]) e4, w2 (show kd S2 la = 7 by rw [k2, k1, kB, kAl]) e3, w2 (show kd S1 la = 7 by rw [k1, kB, kAl]) e2, w1]
    rw [y1, rB, rA z z2]
  have mx : f_J9_max_7cf53 S7 0 (nI len) = some (nI len) := by
    unfold f_J9_max_7cf53
    rw [if_pos (by rw [lt_i, nI_toInt (by omega)]; simp only [Int32.reduceToInt]; omega)]
  refine ⟨F, ?_, fun z => by rw [k8]; exact kD z, by rw [l8]; exact lD1, by rw [l8]; exact lD2, ?_, ?_, ?_, ?_, ?_, ?_, ?_, ?_, ?_, fun k hk => by rw [fe]; exact mBe k hk, ?_, ?_, fr, FD.tr f8 (fun _ _ e => e)⟩
  · unfold f_X6_init
    have nA' : newA (setI T la 0 0) 15 4 = some (nx T, A) := by
      rw [hA]
      exact newA_s (n := 4) (by omega) (by show nx T + 1 ≤ cap T; omega) (by show sl T + 4 ≤ _; omega)
    simp only [putI_s hk, Option.bind_some, nA', st0, st1, st2, st3, e1, e2, e3, e4, e5, e6, e7, mx, eD, e8]
  · rw [n8 1 (by decide), mrD _ ne1, q7, q6, q5, q4, q3, q2, v1]
  · exact v8
  · rw [p8, miD _ ne1, n7 0 (by decide), n6 0 (by decide), n5 0 (by decide), n4 0 (by decide), n3 0 (by decide), n2 0 (by decide), p1, mB0]
  · rw [p8, miD _ ne1, n7 2 (by decide), n6 2 (by decide), n5 2 (by decide), n4 2 (by decide), n3 2 (by decide), v2]
  · rw [p8, miD _ ne1, n7 3 (by decide), n6 3 (by decide), n5 3 (by decide), n4 3 (by decide), v3]
  · rw [p8, miD _ ne1, n7 4 (by decide), n6 4 (by decide), n5 4 (by decide), v4]
  · rw [p8, miD _ ne1, n7 5 (by decide), n6 5 (by decide), v5]
  · rw [p8, miD _ ne1, n7 6 (by decide), v6]
  · rw [p8, miD _ ne1, v7]
  · exact (congrArg (fun z => z.1) h8).trans nD
  · exact (congrArg (fun z => z.2.1) h8).trans sD
