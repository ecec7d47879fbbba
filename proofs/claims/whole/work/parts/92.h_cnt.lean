theorem lsum_rev {α : Type} (l : List α) (f : α → ZF) (w t : Int) : lsum l.reverse f w t = lsum l f w t := by
  induction l with
  | nil => rfl
  | cons x l ih =>
    rw [List.reverse_cons, lsum_app, ih]
    show lsum l f w t + (f x w t + 0) = f x w t + lsum l f w t
    omega
theorem X_cBW {T : St} {xb n i k : Nat} {pv : Nat → Nat → Int32} {br : Nat → Nat → Bool} (x : XOK T xb) (h1 : mi T (xb + 12) 1 = nI n) (n8 : n ≤ 8) (hw : ∀ i k, -5 ≤ wtv pv i k ∧ wtv pv i k ≤ 9) (hi : i < 8) (hk : k < 8) (hW : ∀ z, z < 2 ^ n → WV pv br (mi T (xb + 14) z) (bits z)) (hB : ∀ z, z < 2 ^ n → BV (Pn (c0_ (wtv pv) br) 8 (bits z)) (mi T (xb + 15) z) (mi T (xb + 16) z)) : f_X5_countBestWith T (xb + 12) (nI (2 ^ i) ||| nI (2 ^ k)) = some (nI (Dn (wtv pv) br i k 8 (List.range n) (mi T (xb + 15) (2 ^ n - 1)).toInt 0)) := by
  have q := p256 n8
  have hl : ((subs (List.range n)).reverse).map (fun p => mk_ p.1) = List.range' 0 (2 ^ n - 0) := by
    rw [List.map_reverse, (t4 n8).2.2.1, List.reverse_reverse, List.range_eq_range']
    rfl
  have hlen : ((subs (List.range n)).reverse).length < FU := by
    have := congrArg List.length hl
    rw [List.length_map, List.length_range'] at this
    unfold FU
    omega
  have g := X_cbw (i := i) (k := k) x h1 n8 hw hi hk hW hB _ 0 FU 0 (fun p hp => List.mem_reverse.mp hp) hl (by omega) hlen
  rw [nI_0] at g
  unfold f_X5_countBestWith
  simp only [xV_joining x, X_every x h1 n8, Option.bind_some]
  rw [g, Int32.zero_add, lsum_rev]
  rfl
/-! JOININGS: the reference counts -/
def PQ (xb z : Nat) : Prop := z = xb + 22 ∨ z = xb + 22 + 44 ∨ z = xb + 22 + 45
def JW (xb : Nat) (T U : St) : Prop := SW (PQ xb) T U ∧ ∀ f, f ≠ 64 → f ≠ 65 → mi U (xb + 22) f = mi T (xb + 22) f
theorem JW.rf (xb : Nat) (T : St) : JW xb T T := ⟨SW.rf _ _, fun _ _ _ => rfl⟩
theorem JW.tr {xb : Nat} {T U V : St} (h : JW xb T U) (k : JW xb U V) : JW xb T V := ⟨h.1.tr k.1, fun f h1 h2 => (k.2 f h1 h2).trans (h.2 f h1 h2)⟩
section Cnt
variable {xb n : Nat} {γ : Nat → Nat}
theorem M_c43 : ∀ (m t fu : Nat) (T : St), t + m = 64 → m < fu → MOK T (xb + 22) → ∃ T', f_X12_counts_43 fu T (xb + 22) (nI t) = some (xb + 22, T') ∧ SW (fun z => z = xb + 22 + 45) T T' ∧ (∀ j, t ≤ j → j < 64 → mi T' (xb + 22 + 45) j = 0) ∧ ∀ j, j < t → mi T' (xb + 22 + 45) j = mi T (xb + 22 + 45) j := by
  intro m
  induction m with
  | zero =>
    intro t fu T e1 e2 mT
    obtain ⟨fu, rfl⟩ : ∃ k, fu = k + 1 := ⟨fu - 1, by omega⟩
    unfold f_X12_counts_43
    rw [if_pos (by rw [le_i, nI_toInt (by omega)]; simp only [Int32.reduceToInt]; omega)]
    exact ⟨T, rfl, SW.rf _ _, fun j h1 h2 => by omega, fun j _ => rfl⟩
  | succ m ih =>
    intro t fu T e1 e2 mT
    obtain ⟨fu, rfl⟩ : ∃ k, fu = k + 1 := ⟨fu - 1, by omega⟩
    unfold f_X12_counts_43
    rw [if_neg (by rw [le_i, nI_toInt (by omega)]; simp only [Int32.reduceToInt]; omega)]
    simp only [mR_together mT, mS_together mT (show t < 64 by omega), nrw15, Option.bind_some, nI_1]
    obtain ⟨A, hA⟩ : ∃ A, A = setI T (xb + 22 + 45) t 0 := ⟨_, rfl⟩
    rw [← hA]
    have wA : SW (fun z => z = xb + 22 + 45) T A := by rw [hA]; exact SW_I _ _ rfl
    obtain ⟨T', g1, g2, g3, g4⟩ := ih (t + 1) fu A (by omega) (by omega) (mT.sw wA)
    refine ⟨T', g1, wA.tr g2, fun j h1 h2 => ?_, fun j h1 => ?_⟩
    · by_cases e : j = t
      · rw [g4 j (by omega), hA, mi_setI_i, if_pos ⟨rfl, e⟩]
      · exact g3 j (by omega) h2
    · rw [g4 j (by omega), hA, mi_setI_i, if_neg (by omega)]
theorem M_c84 {i : Nat} (n8 : n ≤ 8) (hi : i < n) (hγ : ∀ k, k < n → γ k < 8) : ∀ (m t fu : Nat) (T : St), t + m = n → m < fu → MOK T (xb + 22) → mi T (xb + 22) 63 = nI n → (∀ k, k < n → mi T (xb + 22 + 44) k = nI (γ k)) → ∃ T', f_X12_counts_84 fu T (xb + 22) (nI i) (nI t) = some (xb + 22, nI i, T') ∧ SW (fun z => z = xb + 22 + 45) T T' ∧ (∀ k, t ≤ k → k < n → mi T' (xb + 22 + 45) (8 * i + k) = mi T (xb + 22 + 45) (8 * i + k) + if γ i = γ k then 1 else 0) ∧ ∀ j, (∀ k, t ≤ k → k < n → j ≠ 8 * i + k) → mi T' (xb + 22 + 45) j = mi T (xb + 22 + 45) j := by
  intro m
  induction m with
  | zero =>
    intro t fu T e1 e2 mT h63 hg
    obtain ⟨fu, rfl⟩ : ∃ k, fu = k + 1 := ⟨fu - 1, by omega⟩
    unfold f_X12_counts_84
    simp only [mI mT, h63, Option.bind_some]
    rw [if_pos (nI_le (by omega) (by omega))]
    exact ⟨T, rfl, SW.rf _ _, fun j h1 h2 => by omega, fun j _ => rfl⟩
  | succ m ih =>
    intro t fu T e1 e2 mT h63 hg
    obtain ⟨fu, rfl⟩ : ∃ k, fu = k + 1 := ⟨fu - 1, by omega⟩
    have ix : (8 : Int32) * nI i + nI t = nI (8 * i + t) := by rw [show (8 : Int32) = nI 8 from rfl, pk_mul, nI_add]
    have h64 : 8 * i + t < 64 := by omega
    unfold f_X12_counts_84
    simp only [mI mT, h63, Option.bind_some]
    rw [if_neg (nI_ge (by omega) (by omega))]
    simp only [mR_together mT, ix, mL_together mT h64, mR_group mT, mL_group mT (show i < 8 by omega), mL_group mT (show t < 8 by omega), hg i hi, hg t (by omega), Option.bind_some]
    have hγe : (nI (γ i) = nI (γ t)) ↔ γ i = γ t := nI_eq (by have := hγ i hi; omega) (by have := hγ t (by omega); omega)
    have h124 : ∀ v : Int32, ∃ T', f_X12_counts_124 (f_X12_counts_84 fu) T (xb + 22) (nI i) (nI t) v (mi T (xb + 22 + 45) (8 * i + t)) (nI (8 * i + t)) (some (xb + 22 + 45)) = some (xb + 22, nI i, T') ∧ SW (fun z => z = xb + 22 + 45) T T' ∧ (mi T' (xb + 22 + 45) (8 * i + t) = mi T (xb + 22 + 45) (8 * i + t) + v) ∧ (∀ k, t + 1 ≤ k → k < n → mi T' (xb + 22 + 45) (8 * i + k) = mi T (xb + 22 + 45) (8 * i + k) + if γ i = γ k then 1 else 0) ∧ ∀ j, (∀ k, t ≤ k → k < n → j ≠ 8 * i + k) → mi T' (xb + 22 + 45) j = mi T (xb + 22 + 45) j := by
      intro v
      unfold f_X12_counts_124
      simp only [mS_together mT h64, nrw15, Option.bind_some, nI_1]
      obtain ⟨A, hA⟩ : ∃ A, A = setI T (xb + 22 + 45) (8 * i + t) (mi T (xb + 22 + 45) (8 * i + t) + v) := ⟨_, rfl⟩
      rw [← hA]
      have wA : SW (fun z => z = xb + 22 + 45) T A := by rw [hA]; exact SW_I _ _ rfl
      have o0 : mi A (xb + 22) = mi T (xb + 22) := (wA.2.2.2 (xb + 22) (by omega)).1
      have o44 : mi A (xb + 22 + 44) = mi T (xb + 22 + 44) := (wA.2.2.2 (xb + 22 + 44) (by omega)).1
      obtain ⟨T', g1, g2, g3, g4⟩ := ih (t + 1) fu A (by omega) (by omega) (mT.sw wA) (by rw [o0]; exact h63) (fun k hk => by rw [o44]; exact hg k hk)
      refine ⟨T', g1, wA.tr g2, ?_, fun k h1 h2 => ?_, fun j hj => ?_⟩
      · rw [g4 (8 * i + t) (fun k h1 h2 => by omega), hA, mi_setI_i, if_pos ⟨rfl, rfl⟩]
      · rw [g3 k h1 h2, hA, mi_setI_i, if_neg (by omega)]
      · rw [g4 j (fun k h1 h2 => hj k (by omega) h2), hA, mi_setI_i, if_neg (fun z => hj t (by omega) (by omega) z.2)]
    have fin : ∀ v : Int32, v = (if γ i = γ t then 1 else 0) → ∃ T', f_X12_counts_124 (f_X12_counts_84 fu) T (xb + 22) (nI i) (nI t) v (mi T (xb + 22 + 45) (8 * i + t)) (nI (8 * i + t)) (some (xb + 22 + 45)) = some (xb + 22, nI i, T') ∧ SW (fun z => z = xb + 22 + 45) T T' ∧ (∀ k, t ≤ k → k < n → mi T' (xb + 22 + 45) (8 * i + k) = mi T (xb + 22 + 45) (8 * i + k) + if γ i = γ k then 1 else 0) ∧ ∀ j, (∀ k, t ≤ k → k < n → j ≠ 8 * i + k) → mi T' (xb + 22 + 45) j = mi T (xb + 22 + 45) j := by
      intro v hv
      obtain ⟨T', g1, g2, g3, g4, g5⟩ := h124 v
      refine ⟨T', g1, g2, fun k h1 h2 => ?_, g5⟩
      by_cases e : k = t
      · rw [e, g3, hv]
      · exact g4 k (by omega) h2
    by_cases c : γ i = γ t
    · rw [if_pos (hγe.mpr c)]
      exact fin 1 (by rw [if_pos c])
    · rw [if_neg (fun z => c (hγe.mp z))]
      exact fin 0 (by rw [if_neg c])
theorem c74_go {F : Nat} {T A B : St} {x0 : Nat} {x2 y : Int32} (f : Nat) (h : f_X12_counts_84 F T x0 x2 0 = some (x0, y, A)) (h2 : f_X12_counts_74 f A x0 (y + 1) = some B) : ((f_X12_counts_84 F T x0 x2 0).bind fun (x0, x2_84, S_84) => f_X12_counts_74 f S_84 x0 (x2_84 + 1)) = some B := by
  rw [h]
  exact h2
theorem M_c74 (n8 : n ≤ 8) (hγ : ∀ k, k < n → γ k < 8) : ∀ (m t fu : Nat) (T : St), t + m = n → m < fu → MOK T (xb + 22) → mi T (xb + 22) 63 = nI n → (∀ k, k < n → mi T (xb + 22 + 44) k = nI (γ k)) → ∃ T', f_X12_counts_74 fu T (xb + 22) (nI t) = some T' ∧ SW (fun z => z = xb + 22 + 45) T T' ∧ (∀ i k, t ≤ i → i < n → k < n → mi T' (xb + 22 + 45) (8 * i + k) = mi T (xb + 22 + 45) (8 * i + k) + if γ i = γ k then 1 else 0) ∧ ∀ i k, i < t → k < n → mi T' (xb + 22 + 45) (8 * i + k) = mi T (xb + 22 + 45) (8 * i + k) := by
  intro m
  induction m with
  | zero =>
    intro t fu T e1 e2 mT h63 hg
    obtain ⟨fu, rfl⟩ : ∃ k, fu = k + 1 := ⟨fu - 1, by omega⟩
    unfold f_X12_counts_74
    simp only [mI mT, h63, Option.bind_some]
    rw [if_pos (nI_le (by omega) (by omega))]
    exact ⟨T, rfl, SW.rf _ _, fun i k h1 h2 => by omega, fun i k _ _ => rfl⟩
  | succ m ih =>
    intro t fu T e1 e2 mT h63 hg
    obtain ⟨fu, rfl⟩ : ∃ k, fu = k + 1 := ⟨fu - 1, by omega⟩
    obtain ⟨A, a1, a2, a3, a4⟩ := M_c84 (xb := xb) (i := t) n8 (by omega) hγ n 0 FU T (by omega) (by unfold FU; omega) mT h63 hg
    rw [nI_0] at a1
    have o0 : mi A (xb + 22) = mi T (xb + 22) := (a2.2.2.2 (xb + 22) (by omega)).1
    have o44 : mi A (xb + 22 + 44) = mi T (xb + 22 + 44) := (a2.2.2.2 (xb + 22 + 44) (by omega)).1
    obtain ⟨T', g1, g2, g3, g4⟩ := ih (t + 1) fu A (by omega) (by omega) (mT.sw a2) (by rw [o0]; exact h63) (fun k hk => by rw [o44]; exact hg k hk)
    unfold f_X12_counts_74
    simp only [mI mT, h63, Option.bind_some]
    rw [if_neg (nI_ge (by omega) (by omega)), c74_go fu a1 (by rw [nI_1]; exact g1)]
    refine ⟨T', rfl, a2.tr g2, fun i k h1 h2 h3 => ?_, fun i k h1 h2 => ?_⟩
    · by_cases e : i = t
      · rw [e, g4 t k (by omega) h3, a3 k (by omega) h3]
      · rw [g3 i k (by omega) h2 h3, a4 (8 * i + k) (fun q h5 h6 => by omega)]
    · rw [g4 i k (by omega) h2, a4 (8 * i + k) (fun q h5 h6 => by omega)]
end Cnt
