theorem TOK.adv {tb : Nat → Nat} {n i s p v e : Nat} (h : TOK tb n i s p v e) (hs : s ≠ 0) : i < e := by
  obtain ⟨⟨w1, w2, -, -⟩, h2⟩ := h
  rcases h2 with ⟨a, b, c, d⟩ | ⟨a, b, c, d, e⟩ | ⟨a, b, c, d, e⟩ | ⟨a, b, c, d, e1, e2⟩
  · exact absurd b hs
  · have := WE_1 a c b; omega
  · have := WE_1 a d c; omega
  · omega
theorem TKS_len {tb : Nat → Nat} {n : Nat} : ∀ (ts : List Tk) (i : Nat), i ≤ n → TKS tb n i ts → ts.length + i ≤ n + 1
  | [], i, hi, h => False.elim h
  | t :: ts, i, hi, h => by
    obtain ⟨h1, h2⟩ := h
    rcases h2 with ⟨-, z⟩ | ⟨z1, z2⟩
    · rw [z]; show 1 + i ≤ n + 1; omega
    · have a := h1.adv z1
      have b := TKS_len ts _ h1.bd.2.1 z2
      show ts.length + 1 + i ≤ n + 1
      omega
section Beg
variable {r la l : Nat} {ts : List Tk} {f : Nat → Nat} {T T' U S : St} {xb n : Nat} {tb : Nat → Nat}
/-- the first token -/
theorem X_adv0 (k0 : KS r la l ts f T) (h2 : mi T r 1 = 0) (h3 : mi T r 2 = -1) (h4 : mi T r 4 = 0) (h8 : mi T r 8 = 0) (h9 : mi T la 8 = 0) : ∃ T', f_X7_advance T r = some T' ∧ CWr r la T T' ∧ PCr r la l ts f T' 0 0 [] := by
  have k := k0
  obtain ⟨a1, a2, a3, a4, a5, a6, a7, a8, a9, a10, a11, a12, a13, a14⟩ := k
  obtain ⟨n1, n2, n3⟩ := k0.ne
  obtain ⟨t1, t2, t3, t4⟩ := a12 0 a13
  have nr : f 0 ≠ r := fun z => by rw [z] at t1; omega
  obtain ⟨A, hA⟩ : ∃ A, A = setI T r 4 (nI 1) := ⟨_, rfl⟩
  have wA : CWr r la T A := by rw [hA]; exact k0.cr _ _
  have kA := k0.sw wA.1
  obtain ⟨B, hB⟩ : ∃ B, B = setI A r 5 (nI (tkn ts 0).1) := ⟨_, rfl⟩
  have wB : CWr r la A B := by rw [hB]; exact kA.cr _ _
  have kB := kA.sw wB.1
  obtain ⟨D, hD⟩ : ∃ D, D = setI B r 6 (nI (tkn ts 0).2.1) := ⟨_, rfl⟩
  have wD : CWr r la B D := by rw [hD]; exact kB.cr _ _
  have kD := kB.sw wD.1
  obtain ⟨E, hE⟩ : ∃ E, E = setI D r 7 (nI (tkn ts 0).2.2.1) := ⟨_, rfl⟩
  have wE : CWr r la D E := by rw [hE]; exact kD.cr _ _
  have kE := kD.sw wE.1
  have w := ((wA.tr wB).tr wD).tr wE
  refine ⟨E, ?_, w, kE, a13, ?_, ?_, ?_, ?_, ?_, ?_, ?_, ?_, Nat.zero_le _, fun i hi => by cases hi⟩
  · unfold f_X7_advance
    have tA := kA.2.2.2.2.2.2.2.2.2.2.2.1 0 a13
    have tB := kB.2.2.2.2.2.2.2.2.2.2.2.1 0 a13
    have tD := kD.2.2.2.2.2.2.2.2.2.2.2.1 0 a13
    have sz : (0 : Int32) < nI ts.length := by rw [lt_i, nI_toInt (by omega)]; simp only [Int32.reduceToInt]; omega
    have g0 : f_Jx4a65c_get_915e3 T l 0 = some (some (f 0)) := L_get a11 a13
    have o1 : (0 : Int32) + 1 = nI 1 := rfl
    simp only [getI_s a1, h2, h4, Option.bind_some, if_true]
    rw [if_neg (by decide)]
    simp only [getR_s a1, a3, rcv_s a11.1, L_size a11, Option.bind_some]
    rw [if_pos sz]
    simp only [g0, castO_s t1, putI_s a1, o1, ← hA, getI_s tA.1, tA.2.1, Option.bind_some, putI_s kA.1, ← hB, getI_s tB.1, tB.2.2.1, putI_s kB.1, ← hD, getI_s tD.1, tD.2.2.2, putI_s kD.1, ← hE]
  · rw [hE, mi_setI_i, if_neg (by omega), hD, mi_setI_i, if_neg (by omega), hB, mi_setI_i, if_neg (by omega), hA, mi_setI_i, if_neg (by omega)]; exact h2
  · rw [hE, mi_setI_i, if_neg (by omega), hD, mi_setI_i, if_neg (by omega), hB, mi_setI_i, if_neg (by omega), hA, mi_setI_i, if_neg (by omega)]; exact h3
  · rw [hE, mi_setI_i, if_neg (by omega), hD, mi_setI_i, if_neg (by omega), hB, mi_setI_i, if_neg (by omega), hA, mi_setI_i, if_pos ⟨rfl, rfl⟩]
  · rw [hE, mi_setI_i, if_neg (by omega), hD, mi_setI_i, if_neg (by omega), hB, mi_setI_i, if_pos ⟨rfl, rfl⟩]
  · rw [hE, mi_setI_i, if_neg (by omega), hD, mi_setI_i, if_pos ⟨rfl, rfl⟩]
  · rw [hE, mi_setI_i, if_pos ⟨rfl, rfl⟩]
  · rw [hE, mi_setI_i, if_neg (by omega), hD, mi_setI_i, if_neg (by omega), hB, mi_setI_i, if_neg (by omega), hA, mi_setI_i, if_neg (by omega)]; exact h8
  · rw [hE, mi_setI_i, if_neg (by omega), hD, mi_setI_i, if_neg (by omega), hB, mi_setI_i, if_neg (by omega), hA, mi_setI_i, if_neg (by omega)]; exact h9
/-- the tokens are made -/
theorem X_split (b : BS S xb) (hB : BTc S xb tb n) (hc : nx S + 990 ≤ cap S) (hs : sl S + 13900 ≤ 7302250) : ∃ T ts f r, f_X10_split S (some (xb + 5)) (nI n) = some (some (nx S), T) ∧ SPL S T (nx S) ts f r ∧ TKS tb n 0 ts ∧ ts.length ≤ 601 ∧ 0 < ts.length := by
  obtain ⟨A, hA⟩ : ∃ A, A = mk0 S 3 0 0 := ⟨_, rfl⟩
  have kA : kd A (nx S) = 0 := by rw [hA, kd_mk0, if_pos rfl]
  obtain ⟨B, hBB⟩ : ∃ B, B = setR (setI A (nx S) 0 0) (nx S) 1 (some (emp A)) := ⟨_, rfl⟩
  have FB : Fr (fun _ => False) S B := by
    rw [hBB, hA]
    rw [hA] at kA
    exact (((Fr.rf (fun _ => False) S).mk 3 0 0).sI (a := nx S) 0 0 (by rw [kA]; omega) (fun z => by omega)).sR (a := nx S) 1 _ (by show kd (mk0 S 3 0 0) (nx S) ≤ 20; rw [kA]; omega) (fun z => by omega)
  have kB : ∀ z, kd B z = if z = nx S then 0 else kd S z := fun z => by rw [hBB, hA, kd_setR, kd_setI, kd_mk0]
  have eB : emp B = emp S := FB.empE
  have rB : mr B (nx S) 1 = some (emp S) := by rw [hBB, mr_setR_i, if_pos ⟨rfl, rfl⟩, hA]; rfl
  have iB : mi B (nx S) 2 = 0 := by rw [hBB, mi_setR_, mi_setI_i, if_neg (by omega), hA, mi_mk0, if_pos rfl]
  have nB : nx B = nx S + 1 := by rw [hBB, hA]; rfl
  have sB : sl B = sl S + 3 := by rw [hBB, hA]; rfl
  have bB : BS B xb := b.al2 FB (fun a ha hk => by
    rw [kB] at hk
    by_cases e : a = nx S
    · rw [e, rB, eB]
    · rw [if_neg e, b.1 a ha] at hk
      omega)
  have kE : kd B (emp S) = 21 := by
    have := bB.2.2.2.2.1.1
    rw [eB] at this
    exact this
  have sp : SPL S B (nx S) [] (fun _ => 0) 0 := by
    refine ⟨FB, bB.2.1, bB.1, Nat.le_refl _, ⟨by rw [kB, if_pos rfl], iB, by show 0 < 100000; omega, ⟨emp S, rB, Or.inl ⟨rfl, eB.symm, kE⟩, fun i hi => by cases hi⟩, fun i hi => by cases hi⟩, ⟨⟨emp S, rB, Or.inl ⟨kE, rfl⟩⟩, fun e h1 h2 => ?_⟩, (fun k hk => by cases hk), 0, 0, (by rw [nB]; rfl), (by rw [sB]; rfl), by omega, by omega, by show 0 ≤ 2 * 0 + 10; omega, Or.inl ⟨rfl, rfl⟩⟩
    rw [rB] at h1
    cases h1
    rw [kE] at h2
    omega
  obtain ⟨T, ts, f', r', g1, g2, g3⟩ := X_split10 b hB hc hs n 0 FU B [] (fun _ => 0) 0 (by omega) (by omega) (by have := hB.1; unfold FU; omega) (Nat.le_refl _) sp
  have h6 := hB.1
  have tl := TKS_len ts 0 (by omega) g3
  refine ⟨T, ts, f', r', ?_, g2, g3, by omega, ?_⟩
  · unfold f_X10_split
    have e1 : newO S 0 = some (nx S, A) := by rw [newO_s (by omega) (by show sl S + 3 ≤ _; omega), hA]; rfl
    simp only [e1, Option.bind_some, rcv_s kA, L_new kA, ← hBB]
    exact g1
  · cases ts with
    | nil => exact False.elim g3
    | cons t ts => exact Nat.succ_pos _
end Beg
