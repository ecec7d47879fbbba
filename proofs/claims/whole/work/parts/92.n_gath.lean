def pvS (M : MI) (l : List Nat) : Nat → Nat → Int32 := fun i k => pts M (l.getD i 0) (l.getD k 0) - 5
def brS (M : MI) (l : List Nat) : Nat → Nat → Bool := fun i k => decide (bard M (l.getD i 0) (l.getD k 0))
theorem pts_bd (M : MI) (p q : Nat) : 0 ≤ (pts M p q).toInt ∧ (pts M p q).toInt ≤ 14 := by
  have key : ∀ a b c d : Bool, 0 ≤ ((((if a then (3 : Int32) else 0) + (if b then 6 else 0)) + (if c then 1 else 0)) + (if d then 4 else 0)).toInt ∧ ((((if a then (3 : Int32) else 0) + (if b then 6 else 0)) + (if c then 1 else 0)) + (if d then 4 else 0)).toInt ≤ 14 := by decide
  have h := key (decide (M 4 p = M 4 q)) (decide (lik (M 7 p) (M 7 q))) (decide (lik (M 6 p) (M 6 q))) (decide (lik (M 5 p) (M 5 q)))
  simp only [decide_eq_true_eq] at h
  exact h
theorem pvS_bd (M : MI) (l : List Nat) : ∀ i k, -5 ≤ wtv (pvS M l) i k ∧ wtv (pvS M l) i k ≤ 9 := fun i k => by
  have h := pts_bd M (l.getD i 0) (l.getD k 0)
  have e : wtv (pvS M l) i k = (pts M (l.getD i 0) (l.getD k 0)).toInt - 5 := by
    show (pts M (l.getD i 0) (l.getD k 0) - 5).toInt = _
    rw [sub_i (by simp only [Int32.reduceToInt]; omega) (by simp only [Int32.reduceToInt]; omega)]
    rfl
  omega
section Gath2
variable {S : St} {xb nf np na ne nc X : Nat} {M : MI} {L : ML} {fa pa aa ea ca : Nat → Nat} {il : Nat → List Nat}
theorem X_PWo {T : St} (j : JX T xb M L ((nf, fa), (np, pa), (na, aa), (ne, ea, il), (nc, ca))) {l : List Nat} (hs : SE T xb pa l) (h8 : l.length ≤ 8) (hl : ∀ i, i < l.length → l.getD i 0 < np) : PWo T xb l.length (pvS M l) (brS M l) := by
  obtain ⟨b, -, -, -, -, cp, -⟩ := j.un
  have x := b.2.2.1
  intro i k h1 h2
  have p1 := hl i (by omega)
  have p2 := hl k h2
  unfold f_X5_pairWorth
  simp only [xR_seats x, xZ_seats x, X_isWithin, i01, Option.bind_some, nI_toInt (show i < 2 ^ 31 by omega), nI_toInt (show k < 2 ^ 31 by omega), Int32.reduceToInt, xL_seats x (show i < 8 by omega), xL_seats x (show k < 8 by omega), hs.2 i (by omega), hs.2 k h2]
  rw [if_neg (by omega), if_neg (by omega), if_neg (by simp), if_neg (by simp)]
  simp only [rcv_s (cp.2.2.2 _ p1).1, X_barred cp p1 p2, X_points cp p1 p2, Option.bind_some, i01]
  unfold brS pvS
  by_cases c : bard M (l.getD i 0) (l.getD k 0)
  · rw [if_neg (fun z => z c), if_pos (decide_eq_true c)]
  · rw [if_pos c, if_neg (fun z => c (of_decide_eq_true z))]
/-- the class has gathered -/
def XG (T : St) (xb : Nat) (pa : Nat → Nat) (M : MI) (l : List Nat) : Prop := SE T xb pa l ∧ (∀ z, z < 2 ^ l.length → WV (pvS M l) (brS M l) (mi T (xb + 14) z) (bits z)) ∧ ∀ z, z < 2 ^ l.length → BV (Pn (c0_ (wtv (pvS M l)) (brS M l)) 8 (bits z)) (mi T (xb + 15) z) (mi T (xb + 16) z)
theorem X_gather (j : JX S xb M L ((nf, fa), (np, pa), (na, aa), (ne, ea, il), (nc, ca))) (x1 : Int32) : ∃ T, JF xb S T ∧ ((∃ X, 0 < X ∧ X < 2 ^ 31 ∧ x1 = nI X ∧ SEk X np ∧ XG T xb pa M (pl X np) ∧ f_X11_gather S xb x1 = some (1, T)) ∨ (f_X11_gather S xb x1 = some (0, T) ∧ ∀ X, 0 < X → X < 2 ^ 31 → x1 = nI X → ¬ SEk X np)) := by
  have x := j.1.2.2.1
  have n24 : np ≤ 24 := j.un.2.2.2.2.2.1.2.1
  unfold f_X11_gather f_X5_clear
  simp only [xR_joining x, xV_joining x, putI_s (xK_joining x), Option.bind_some]
  obtain ⟨A, hA⟩ : ∃ A, A = setI S (xb + 12) 1 0 := ⟨_, rfl⟩
  rw [← hA]
  have wA : JF xb S A := by rw [hA]; exact (SW_I (P := fun z => z = xb + 12) 1 _ rfl).jf (fun a e => by rw [e]; unfold PJ; omega)
  have a1 : mi A (xb + 12) 1 = 0 := by rw [hA, mi_setI_i, if_pos ⟨rfl, rfl⟩]
  by_cases c0 : x1 ≤ 0
  · rw [if_pos c0]
    refine ⟨A, wA, Or.inr ⟨rfl, fun X h1 h2 h3 => ?_⟩⟩
    rw [h3, le_i, nI_toInt (by omega)] at c0
    simp only [Int32.reduceToInt] at c0
    omega
  · rw [if_neg c0]
    have c0' : 0 < x1.toInt := by
      rw [le_i] at c0
      simp only [Int32.reduceToInt] at c0
      omega
    obtain ⟨X, hX31, hX⟩ : ∃ X : Nat, X < 2 ^ 31 ∧ x1 = nI X := by
      have h1 := x1.toInt_lt
      obtain ⟨X, h2⟩ := Int.eq_ofNat_of_zero_le (show 0 ≤ x1.toInt by omega)
      refine ⟨X, by omega, (eq_i _ _).mpr ?_⟩
      rw [nI_toInt (by omega)]
      exact h2
    have X0 : 0 < X := by rw [hX, nI_toInt (by omega)] at c0'; omega
    have un : ∀ Y, Y < 2 ^ 31 → x1 = nI Y → Y = X := fun Y h1 h2 => by
      rw [hX, nI_eq (by omega) (by omega)] at h2
      exact h2.symm
    have sh24 : (x1 >>> (24 &&& 31) = 0) ↔ X < 2 ^ 24 := by
      rw [hX]
      show (nI X >>> (nI 24 &&& 31) = 0) ↔ _
      rw [shI hX31 (by omega), show (0 : Int32) = nI 0 from nI_0.symm, nI_eq (by have := Nat.shiftRight_le X 24; omega) (by omega), Nat.shiftRight_eq_div_pow]
      omega
    by_cases c1 : X < 2 ^ 24
    · rw [if_pos (sh24.mpr c1)]
      obtain ⟨T, t1, t2⟩ := X_g22 j c1 24 0 FU A (by omega) (by unfold FU; omega) wA ⟨a1.trans nI_0.symm, fun k hk => by cases hk⟩ (Nat.zero_le _) (fun q h1 h2 => by omega)
      rw [nI_0, ← hX] at t2
      rcases t2 with ⟨s1, s2, s3⟩ | ⟨s1, s2⟩
      · have jT := t1.jx j
        have xT := jT.1.2.2.1
        obtain ⟨l, hl⟩ : ∃ l, l = pl X np := ⟨_, rfl⟩
        have hln : ∀ i, i < l.length → l.getD i 0 < np := fun i hi => by rw [hl] at hi ⊢; exact pl_lt hi
        have l8 : l.length ≤ 8 := by rw [hl]; exact s1.2
        rw [← hl] at s2
        obtain ⟨U, u1, u2, u3, u4⟩ := X_reckon (pv := pvS M l) (br := brS M l) xT s2.1 l8 (fun T' w' => by
          have w'' : JF xb T T' := w'.jf (fun a ha => by unfold P4 at ha; unfold PJ; omega)
          refine X_PWo (w''.jx jT) ⟨?_, ?_⟩ l8 hln
          · rw [(w'.2.2.2 (xb + 12) (by unfold P4; omega)).1]; exact s2.1
          · intro k hk
            rw [w'.mr]; exact s2.2 k hk) (pvS_bd M l)
        refine ⟨U, t1.tr (u2.jf (fun a ha => by unfold P4 at ha; unfold PJ; omega)), Or.inl ⟨X, X0, hX31, hX, s1, ?_, ?_⟩⟩
        · rw [← hl]
          refine ⟨⟨?_, fun k hk => ?_⟩, u3, u4⟩
          · rw [(u2.2.2.2 (xb + 12) (by unfold P4; omega)).1]; exact s2.1
          · rw [u2.mr]; exact s2.2 k hk
        · rw [s3, u1]
          rfl
      · exact ⟨T, t1, Or.inr ⟨s2, fun Y h1 h2 h3 => by rw [un Y h2 h3]; exact s1⟩⟩
    · rw [if_neg (fun z => c1 (sh24.mp z))]
      refine ⟨A, wA, Or.inr ⟨rfl, fun Y h1 h2 h3 z => ?_⟩⟩
      rw [un Y h2 h3] at z
      exact c1 (Nat.lt_of_lt_of_le z.1 (Nat.pow_le_pow_right (by omega) n24))
/-! the reference's set -/
def KW (xb : Nat) (T U : St) : Prop := SW (fun z => z = xb + 22 ∨ z = xb + 22 + 43) T U ∧ ∀ f, f ≠ 63 → mi U (xb + 22) f = mi T (xb + 22) f
theorem KW.rf (xb : Nat) (T : St) : KW xb T T := ⟨SW.rf _ _, fun _ _ => rfl⟩
theorem KW.tr {T U V : St} (h : KW xb T U) (k : KW xb U V) : KW xb T V := ⟨h.1.tr k.1, fun f h1 => (k.2 f h1).trans (h.2 f h1)⟩
def SI (T : St) (xb : Nat) (l : List Nat) : Prop := mi T (xb + 22) 63 = nI l.length ∧ ∀ j, j < l.length → mi T (xb + 22 + 43) j = nI (l.getD j 0)
theorem M_is32 {T0 : St} (m0 : MOK T0 (xb + 22)) (h2 : mi T0 (xb + 22) 2 = nI np) (n24 : np ≤ 24) (hX : X < 2 ^ 31) : ∀ (r p fu : Nat) (T : St), p + r = np → r < fu → KW xb T0 T → SI T xb (pl X p) → (pl X p).length ≤ 8 → ∃ T', KW xb T0 T' ∧ (((pl X np).length ≤ 8 ∧ SI T' xb (pl X np) ∧ f_X12_isSet_32 fu T (xb + 22) (nI X) (nI p) = some (1, T')) ∨ (¬ (pl X np).length ≤ 8 ∧ f_X12_isSet_32 fu T (xb + 22) (nI X) (nI p) = some (0, T'))) := by
  intro r
  induction r with
  | zero =>
    intro p fu T e1 e2 w hs hl
    obtain ⟨fu, rfl⟩ : ∃ k, fu = k + 1 := ⟨fu - 1, by omega⟩
    have : p = np := by omega
    subst this
    have mT := m0.sw w.1
    have h2' : mi T (xb + 22) 2 = nI p := by rw [w.2 2 (by omega)]; exact h2
    refine ⟨T, w, Or.inl ⟨hl, hs, ?_⟩⟩
    unfold f_X12_isSet_32
    simp only [mI mT, h2', Option.bind_some]
    rw [if_pos (nI_le (by omega) (by omega))]
  | succ r ih =>
    intro p fu T e1 e2 w hs hl
    obtain ⟨fu, rfl⟩ : ∃ k, fu = k + 1 := ⟨fu - 1, by omega⟩
    have mT := m0.sw w.1
    have h2' : mi T (xb + 22) 2 = nI np := by rw [w.2 2 (by omega)]; exact h2
    unfold f_X12_isSet_32
    simp only [mI mT, h2', Option.bind_some]
    rw [if_neg (nI_ge (by omega) (by omega)), bitI hX (by omega)]
    have es := pl_succ X p
    by_cases c : X.testBit p = true
    · rw [if_pos c, if_neg (by decide)]
      rw [if_pos c] at es
      rw [hs.1]
      by_cases c8 : (pl X p).length = 8
      · rw [if_pos (by rw [c8]; rfl)]
        refine ⟨T, w, Or.inr ⟨fun z => ?_, rfl⟩⟩
        have h1 := pl_le (X := X) (show p + 1 ≤ np by omega)
        rw [es, List.length_append] at h1
        have h3 : (pl X p).length + 1 ≤ (pl X np).length := h1
        omega
      · rw [if_neg (fun z => c8 ((nI_eq (by omega) (by omega)).mp (z.trans (show (8 : Int32) = nI 8 from rfl))))]
        simp only [mR_inSet mT, mS_inSet mT (show (pl X p).length < 8 by omega), nrw15, Option.bind_some]
        obtain ⟨A, hA⟩ : ∃ A, A = setI T (xb + 22 + 43) (pl X p).length (nI p) := ⟨_, rfl⟩
        rw [← hA]
        have sA : SW (fun z => z = xb + 22 ∨ z = xb + 22 + 43) T A := by rw [hA]; exact SW_I _ _ (Or.inr rfl)
        have aI : ∀ f, mi A (xb + 22) f = mi T (xb + 22) f := fun f => by rw [hA, mi_setI_i, if_neg (by omega)]
        have mA := mT.sw sA
        simp only [mI mA, aI, hs.1, mP mA, nI_1, Option.bind_some]
        obtain ⟨B, hB⟩ : ∃ B, B = setI A (xb + 22) 63 (nI ((pl X p).length + 1)) := ⟨_, rfl⟩
        rw [← hB]
        have sB : SW (fun z => z = xb + 22 ∨ z = xb + 22 + 43) T B := sA.tr (by rw [hB]; exact SW_I _ _ (Or.inl rfl))
        have wB : KW xb T B := ⟨sB, fun f hf => by rw [hB, mi_setI_i, if_neg (by omega)]; exact aI f⟩
        refine ih (p + 1) fu B (by omega) (by omega) (w.tr wB) ⟨?_, fun k hk => ?_⟩ (by rw [es, List.length_append]; show (pl X p).length + 1 ≤ 8; omega)
        · rw [hB, mi_setI_i, if_pos ⟨rfl, rfl⟩, es, List.length_append]
          rfl
        · rw [hB, mi_setI_i, if_neg (by omega), hA, mi_setI_i]
          rw [es, List.length_append] at hk
          have hk' : k < (pl X p).length + 1 := hk
          rw [es]
          by_cases e : k = (pl X p).length
          · rw [if_pos ⟨rfl, e⟩, e]
            have := getD_r (pl X p) [p] 0 0
            rw [Nat.add_zero] at this
            rw [this]
            rfl
          · rw [if_neg (fun z => e z.2), getD_l _ _ _ (by omega)]
            exact hs.2 k (by omega)
    · rw [if_neg c, if_pos rfl, nI_1]
      rw [if_neg c, List.append_nil] at es
      rw [← es] at hs hl
      exact ih (p + 1) fu T (by omega) (by omega) w hs hl
theorem M_isSet {T0 : St} (m0 : MOK T0 (xb + 22)) (h2 : mi T0 (xb + 22) 2 = nI np) (n24 : np ≤ 24) (x1 : Int32) : ∃ T, KW xb T0 T ∧ ((∃ X, 0 < X ∧ X < 2 ^ 31 ∧ x1 = nI X ∧ SEk X np ∧ SI T xb (pl X np) ∧ f_X12_isSet T0 (xb + 22) x1 = some (1, T)) ∨ (f_X12_isSet T0 (xb + 22) x1 = some (0, T) ∧ ∀ X, 0 < X → X < 2 ^ 31 → x1 = nI X → ¬ SEk X np)) := by
  unfold f_X12_isSet
  simp only [mP m0, Option.bind_some]
  obtain ⟨A, hA⟩ : ∃ A, A = setI T0 (xb + 22) 63 0 := ⟨_, rfl⟩
  rw [← hA]
  have sA : SW (fun z => z = xb + 22 ∨ z = xb + 22 + 43) T0 A := by rw [hA]; exact SW_I _ _ (Or.inl rfl)
  have wA : KW xb T0 A := ⟨sA, fun f hf => by rw [hA, mi_setI_i, if_neg (by omega)]⟩
  have a63 : mi A (xb + 22) 63 = nI 0 := by rw [hA, mi_setI_i, if_pos ⟨rfl, rfl⟩, nI_0]
  have mA := m0.sw sA
  have h2A : mi A (xb + 22) 2 = nI np := by rw [wA.2 2 (by omega)]; exact h2
  by_cases c0 : x1 ≤ 0
  · rw [if_pos c0]
    refine ⟨A, wA, Or.inr ⟨rfl, fun X h1 h2 h3 => ?_⟩⟩
    rw [h3, le_i, nI_toInt (by omega)] at c0
    simp only [Int32.reduceToInt] at c0
    omega
  · rw [if_neg c0]
    have c0' : 0 < x1.toInt := by
      rw [le_i] at c0
      simp only [Int32.reduceToInt] at c0
      omega
    obtain ⟨X, hX31, hX⟩ : ∃ X : Nat, X < 2 ^ 31 ∧ x1 = nI X := by
      have h1 := x1.toInt_lt
      obtain ⟨X, h2⟩ := Int.eq_ofNat_of_zero_le (show 0 ≤ x1.toInt by omega)
      refine ⟨X, by omega, (eq_i _ _).mpr ?_⟩
      rw [nI_toInt (by omega)]
      exact h2
    have X0 : 0 < X := by rw [hX, nI_toInt (by omega)] at c0'; omega
    have un : ∀ Y, Y < 2 ^ 31 → x1 = nI Y → Y = X := fun Y h1 h2 => by
      rw [hX, nI_eq (by omega) (by omega)] at h2
      exact h2.symm
    simp only [mI mA, h2A, Option.bind_some, slI (show np < 25 by omega)]
    rw [if_neg (by rw [le_i, nI_toInt (by omega)]; simp only [Int32.reduceToInt]; omega)]
    have p24 : 2 ^ np ≤ 2 ^ 24 := Nat.pow_le_pow_right (by omega) n24
    by_cases c1 : X < 2 ^ np
    · rw [if_pos (by rw [hX, lt_i, nI_toInt (by omega), nI_toInt (by omega)]; omega)]
      obtain ⟨T, t1, t2⟩ := M_is32 (X := X) mA h2A n24 hX31 np 0 FU A (by omega) (by unfold FU; omega) (KW.rf _ _) ⟨a63, fun k hk => by cases hk⟩ (Nat.zero_le _)
      rw [nI_0, ← hX] at t2
      rcases t2 with ⟨s1, s2, s3⟩ | ⟨s1, s2⟩
      · exact ⟨T, wA.tr t1, Or.inl ⟨X, X0, hX31, hX, ⟨c1, s1⟩, s2, s3⟩⟩
      · exact ⟨T, wA.tr t1, Or.inr ⟨s2, fun Y h1 h2 h3 z => by rw [un Y h2 h3] at z; exact s1 z.2⟩⟩
    · rw [if_neg (by rw [hX, lt_i, nI_toInt (by omega), nI_toInt (by omega)]; omega)]
      exact ⟨A, wA, Or.inr ⟨rfl, fun Y h1 h2 h3 z => by rw [un Y h2 h3] at z; exact c1 z.1⟩⟩
end Gath2
