theorem ch_go {F : Nat} {T A B : St} {x0 : Nat} {x1 x2 : Option Nat} {x3 x4 s : Int32} (h : f_X1_choose_11 F T x0 x1 x2 x3 x4 0 0 = some (x0, x3, x4, s, A)) (h2 : f_X1_choose_80 A x0 x3 x4 s = some B) : ((f_X1_choose_11 F T x0 x1 x2 x3 x4 0 0).bind fun (x0, x3_11, x4_11, x5_11, S_11) => f_X1_choose_80 S_11 x0 x3_11 x4_11 x5_11) = some B := by
  rw [h]
  exact h2
section Choose2
variable {S : St} {xb nf np na ne nc f : Nat} {M : MI} {L : ML} {fa pa aa ea ca : Nat → Nat} {il : Nat → List Nat}
theorem X_choose (j : JX S xb M L ((nf, fa), (np, pa), (na, aa), (ne, ea, il), (nc, ca))) (hf : f < nf) {k q : Nat} (hk : k ≤ 20) (hq : q ≤ 999) : ∃ T, f_X1_choose S (xb + 18) (some (fa f)) (some (xb + 17)) (nI k) (nI q) = some T ∧ SW (PH xb) S T ∧ (ml T (xb + 18) 4).toInt = KV (wvv M f) (pcv M) (fil M f 20) k q := by
  have cy : CY S xb M := j.un.2.2.2.1
  have hg : gOK (fgs M f) := j.un.2.2.2.2.1.gok hf
  have x := j.1.2.2.1
  unfold f_X1_choose
  simp only [putI_s (xK_chooser x), Option.bind_some]
  obtain ⟨A, hA⟩ : ∃ A, A = setI S (xb + 18) 3 0 := ⟨_, rfl⟩
  rw [← hA]
  have wA : SW (PH xb) S A := by rw [hA]; exact SW_I _ _ (by unfold PH; omega)
  have a3 : mi A (xb + 18) 3 = nI ([] : List Nat).length := by rw [hA, mi_setI_i, if_pos ⟨rfl, rfl⟩]; rfl
  obtain ⟨B, s, cl, nr, b1, b2, b3⟩ := X_c11 (x3 := nI k) (x4 := nI q) j hf 20 0 FU 0 A [] (fun _ => 0) (by omega) (by unfold FU; omega) wA ⟨a3, Nat.zero_le _, Nat.zero_le _, fun i hi => (by cases hi), fun i hi => (by omega), fun i k _ _ hk => (by cases hk), fun i _ hi => (by cases hi), List.Perm.refl _⟩
  rw [nI_0] at b1
  obtain ⟨h1, h2, h3, h4, h5, h6, h7, h8⟩ := b3
  have xB := x.sw b2
  obtain ⟨C, c1, c2, c3, c4⟩ := X_cr2 (xb := xb) (n := cl.length) h2 (cl.length - s) s FU B (by omega) (by unfold FU; omega) xB h1
  have wC : SW (PH xb) S C := b2.tr (c2.mono (fun z hz => by unfold PH; omega))
  have xC := x.sw wC
  obtain ⟨D, hD⟩ : ∃ D, D = setL C (xb + 18) 4 0 := ⟨_, rfl⟩
  have wD : SW (PH xb) S D := wC.tr (by rw [hD]; exact SW_L _ _ (by unfold PH; omega))
  have xD := x.sw wD
  have dI : ∀ a, mi D a = mi C a := fun a => by rw [hD]; rfl
  have dL : ∀ i, ml D (xb + 19) i = ml C (xb + 19) i := fun i => by rw [hD, ml_setL_i, if_neg (by omega)]
  have arD : AR_ D xb cl (wvv M f) (pcv M) (fun i => if i < s then nr i else cl.length) := by
    refine ⟨by rw [dI, (c2.2.2.2 (xb + 18) (by omega)).1]; exact h1, fun i hi => ?_⟩
    obtain ⟨⟨z1, z2⟩, z3⟩ := h4 i hi
    refine ⟨by rw [dI, (c2.2.2.2 (xb + 20) (by omega)).1]; exact z1, ?_, ?_⟩
    · rw [dL, (c2.2.2.2 (xb + 19) (by omega)).2, z2]
      exact Wvv_i cy hg z3
    · rw [dI]
      by_cases c : i < s
      · simp only [if_pos c]
        rw [c4 i c]; exact (h5 i c).1
      · simp only [if_neg c]
        exact c3 i (by omega) hi
  have rn : RN cl (wvv M f) (pcv M) (fun i => if i < s then nr i else cl.length) := fun i hi => by
    by_cases c : i < s
    · obtain ⟨-, y2, y3, y4⟩ := h5 i c
      simp only [if_pos c]
      exact ⟨y2, by omega, y4⟩
    · simp only [if_neg c]
      exact ⟨hi, Nat.le_refl _, fun k q1 q2 => h6 i k (by omega) q1 q2⟩
  obtain ⟨E, e1, e2, e3, e4⟩ := X_search h2 rn (pcv_le cy) (wvv_bd cy hg) cl.length cl.length 0 32 k q D 0 (Nat.le_refl _) (by omega) (by omega) hk hq xD arD (by constructor <;> decide)
  rw [nI_0] at e1
  have d4 : ml D (xb + 18) 4 = 0 := by rw [hD, ml_setL_i, if_pos ⟨rfl, rfl⟩]
  refine ⟨E, ch_go b1 ?_, wD.tr (e2.mono (fun z hz => by unfold PH; omega)), ?_⟩
  · unfold f_X1_choose_80 f_X1_closeRun F_X1_search
    simp only [xV_chooser xB, c1, putL_s (xK_chooser xC), Option.bind_some, ← hD, xV_chooser xD, e1]
  · rw [e4, d4, List.drop_zero, KV_perm h8]
    have := KV_nn (w := wvv M f) (p := pcv M) (fil M f 20) k q
    have z1 : (0 : Int64).toInt = 0 := rfl
    rw [z1]
    omega
end Choose2
/-! what is read out of the one number -/
theorem shrL {X n : Nat} {b : Int64} (hX : X < 2 ^ 63) (hb : (b.toBitVec.smod 64).toNat = n) : lN X >>> b = lN (X >>> n) := by
  apply Int64.toBitVec_inj.mp
  rw [Int64.toBitVec_shiftRight]
  show ((lN X).toBitVec.sshiftRight (b.toBitVec.smod 64).toNat) = _
  rw [hb]
  have e : (lN X).toBitVec.toInt = (X : Int) := Int64.toInt_ofNat_of_lt hX
  unfold BitVec.sshiftRight
  rw [e]
  show BitVec.ofInt 64 ((X >>> n : Nat) : Int) = (lN (X >>> n)).toBitVec
  rw [BitVec.ofInt_natCast]
  rfl
theorem lN_32 {Z : Nat} (h : Z < 2 ^ 31) : Int64.toInt32 (lN Z) = nI Z := by
  have e : (lN Z).toInt = (Z : Int) := Int64.toInt_ofNat_of_lt (by omega)
  refine (eq_i _ _).mpr ?_
  rw [Int64.toInt_toInt32, e, nI_toInt h]
  exact Int.bmod_eq_of_le (by omega) (by omega)
theorem andL (X : Nat) : lN X &&& 1048575 = lN (X % 1048576) := by
  apply Int64.toBitVec_inj.mp
  rw [Int64.toBitVec_and]
  apply BitVec.eq_of_toNat_eq
  rw [BitVec.toNat_and]
  show (X % 2 ^ 64) &&& (2 ^ 20 - 1) = (X % 1048576) % 2 ^ 64
  rw [Nat.and_two_pow_sub_one_eq_mod]
  omega
theorem lN_of {v : Int64} {X : Nat} (h : v.toInt = (X : Int)) : v = lN X := by
  apply Int64.toInt_inj.mp
  have := Int64.toInt_lt v
  rw [h]
  exact (Int64.toInt_ofNat_of_lt (by omega)).symm
section Dec
variable {T : St} {xb G C D : Nat}
theorem X_cGain (x : XOK T xb) (hG : G < 2 ^ 31) (hC : C ≤ 999) (hD : D < 1048576) (hv : (ml T (xb + 18) 4).toInt = (G : Int) * 2147483648 - (C : Int) * 1048576 - D) (h0 : 0 ≤ (ml T (xb + 18) 4).toInt) : f_X1_chosenGain T (xb + 18) = some (nI G) := by
  unfold f_X1_chosenGain
  simp only [getL_s (xK_chooser x), Option.bind_some]
  have e1 : ((ml T (xb + 18) 4 + 2147483648) - 1).toInt = ((G * 2147483648 - C * 1048576 - D + 2147483647 : Nat) : Int) := by
    have z1 : (2147483648 : Int64).toInt = 2147483648 := rfl
    have z2 : (1 : Int64).toInt = 1 := rfl
    have e2 : (ml T (xb + 18) 4 + 2147483648).toInt = (ml T (xb + 18) 4).toInt + 2147483648 := by rw [addL_i (by rw [z1]; omega) (by rw [z1]; omega), z1]
    rw [subL_i (by rw [e2, z2]; omega) (by rw [e2, z2]; omega), e2, z2]
    omega
  have e3 : (G * 2147483648 - C * 1048576 - D + 2147483647) >>> 31 = G := by
    rw [Nat.shiftRight_eq_div_pow]
    omega
  rw [lN_of e1, shrL (n := 31) (by omega) (by decide), e3, lN_32 hG]
theorem X_off (x : XOK T xb) (hG : G < 2 ^ 31) (hC : C ≤ 999) (hD : D < 1048576) (hv : (ml T (xb + 18) 4).toInt = (G : Int) * 2147483648 - (C : Int) * 1048576 - D) (h0 : 0 ≤ (ml T (xb + 18) 4).toInt) : f_X1_takenOff T (xb + 18) = some (lN (C * 1048576 + D)) := by
  unfold f_X1_takenOff
  simp only [xV_chooser x, X_cGain x hG hC hD hv h0, getL_s (xK_chooser x), Option.bind_some]
  have z1 : (2147483648 : Int64).toInt = 2147483648 := rfl
  have e1 : (nI G).toInt64.toInt = (G : Int) := by rw [Int32.toInt_toInt64, nI_toInt hG]
  rw [shl31]
  have e2 : ((nI G).toInt64 * 2147483648).toInt = (G : Int) * 2147483648 := by rw [mulL_i (by rw [e1, z1]; omega) (by rw [e1, z1]; omega), e1, z1]
  have e4 : ((nI G).toInt64 * 2147483648 - ml T (xb + 18) 4).toInt = ((C * 1048576 + D : Nat) : Int) := by
    rw [subL_i (by rw [e2]; omega) (by rw [e2]; omega), e2, hv]
    omega
  rw [lN_of e4]
theorem X_cCost (x : XOK T xb) (hG : G < 2 ^ 31) (hC : C ≤ 999) (hD : D < 1048576) (hv : (ml T (xb + 18) 4).toInt = (G : Int) * 2147483648 - (C : Int) * 1048576 - D) (h0 : 0 ≤ (ml T (xb + 18) 4).toInt) : f_X1_chosenCost T (xb + 18) = some (nI C) := by
  unfold f_X1_chosenCost
  simp only [xV_chooser x, X_off x hG hC hD hv h0, Option.bind_some]
  have e3 : (C * 1048576 + D) >>> 20 = C := by
    rw [Nat.shiftRight_eq_div_pow]
    omega
  rw [shrL (n := 20) (by omega) (by decide), e3, lN_32 (by omega)]
theorem X_cSet (x : XOK T xb) (hG : G < 2 ^ 31) (hC : C ≤ 999) (hD : D < 1048576) (hv : (ml T (xb + 18) 4).toInt = (G : Int) * 2147483648 - (C : Int) * 1048576 - D) (h0 : 0 ≤ (ml T (xb + 18) 4).toInt) : f_X1_chosenSet T (xb + 18) = some (nI D) := by
  unfold f_X1_chosenSet
  simp only [xV_chooser x, X_off x hG hC hD hv h0, Option.bind_some]
  have e3 : (C * 1048576 + D) % 1048576 = D := by omega
  rw [andL, e3, lN_32 (by omega)]
end Dec
