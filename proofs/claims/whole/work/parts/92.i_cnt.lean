def CB (xb n : Nat) (T : St) (Z : ZF) (Zt : Nat → Nat → ZF) : Prop := (∀ a b w, a < n → b < n → Z w 0 = 0 → Zt a b w 1 = 0) ∧ ((mi T (xb + 22) 65 = 0 ∧ ∀ w, Z w 0 = 0) ∨ (BV Z (mi T (xb + 22) 64) (mi T (xb + 22) 65) ∧ ∀ a b, a < n → b < n → mi T (xb + 22 + 45) (8 * a + b) = nI (Zt a b (mi T (xb + 22) 64).toInt 1)))
theorem c31_go {F : Nat} {T A B : St} {x0 : Nat} (h : f_X12_counts_43 F T x0 0 = some (x0, A)) (h2 : f_X12_counts_62 A x0 = some B) : ((f_X12_counts_43 F T x0 0).bind fun (x0, S_43) => f_X12_counts_62 S_43 x0) = some B := by
  rw [h]
  exact h2
section Cnt2
variable {xb n : Nat} {γ : Nat → Nat}
theorem M_c62 {T : St} (n8 : n ≤ 8) (hγ : ∀ k, k < n → γ k < 8) (m : MOK T (xb + 22)) (h63 : mi T (xb + 22) 63 = nI n) (hg : ∀ k, k < n → mi T (xb + 22 + 44) k = nI (γ k)) : ∃ T', f_X12_counts_62 T (xb + 22) = some T' ∧ JW xb T T' ∧ mi T' (xb + 22) 64 = mi T (xb + 22) 64 ∧ mi T' (xb + 22) 65 = mi T (xb + 22) 65 + 1 ∧ mi T' (xb + 22 + 44) = mi T (xb + 22 + 44) ∧ ∀ i k, i < n → k < n → mi T' (xb + 22 + 45) (8 * i + k) = mi T (xb + 22 + 45) (8 * i + k) + if γ i = γ k then 1 else 0 := by
  unfold f_X12_counts_62
  simp only [mI m, mP m, Option.bind_some]
  obtain ⟨A, hA⟩ : ∃ A, A = setI T (xb + 22) 65 (mi T (xb + 22) 65 + 1) := ⟨_, rfl⟩
  rw [← hA]
  have wA : SW (PQ xb) T A := by rw [hA]; exact SW_I _ _ (Or.inl rfl)
  have oA : ∀ f, f ≠ 65 → mi A (xb + 22) f = mi T (xb + 22) f := fun f hf => by rw [hA, mi_setI_i, if_neg (by omega)]
  have a65 : mi A (xb + 22) 65 = mi T (xb + 22) 65 + 1 := by rw [hA, mi_setI_i, if_pos ⟨rfl, rfl⟩]
  have a44 : mi A (xb + 22 + 44) = mi T (xb + 22 + 44) := by
    funext z
    rw [hA, mi_setI_i, if_neg (by omega)]
  have a45 : mi A (xb + 22 + 45) = mi T (xb + 22 + 45) := by
    funext z
    rw [hA, mi_setI_i, if_neg (by omega)]
  obtain ⟨T', g1, g2, g3, -⟩ := M_c74 (xb := xb) n8 hγ n 0 FU A (by omega) (by unfold FU; omega) (m.sw wA) (by rw [oA 63 (by omega)]; exact h63) (fun k hk => by rw [a44]; exact hg k hk)
  rw [nI_0] at g1
  have o0 : mi T' (xb + 22) = mi A (xb + 22) := (g2.2.2.2 (xb + 22) (by omega)).1
  refine ⟨T', g1, ⟨wA.tr (g2.mono (fun z hz => Or.inr (Or.inr hz))), fun f h1 h2 => by rw [o0]; exact oA f h2⟩, by rw [o0]; exact oA 64 (by omega), by rw [o0]; exact a65, ?_, fun i k hi hk => ?_⟩
  · rw [(g2.2.2.2 (xb + 22 + 44) (by omega)).1, a44]
  · rw [g3 i k (by omega) hi hk, a45]
theorem M_c31 {T : St} (W : Int32) (n8 : n ≤ 8) (hγ : ∀ k, k < n → γ k < 8) (m : MOK T (xb + 22)) (h63 : mi T (xb + 22) 63 = nI n) (hg : ∀ k, k < n → mi T (xb + 22 + 44) k = nI (γ k)) : ∃ T', f_X12_counts_31 T (xb + 22) W = some T' ∧ JW xb T T' ∧ mi T' (xb + 22) 64 = W ∧ mi T' (xb + 22) 65 = 1 ∧ mi T' (xb + 22 + 44) = mi T (xb + 22 + 44) ∧ ∀ i k, i < n → k < n → mi T' (xb + 22 + 45) (8 * i + k) = if γ i = γ k then 1 else 0 := by
  unfold f_X12_counts_31
  simp only [mP m, Option.bind_some]
  obtain ⟨A, hA⟩ : ∃ A, A = setI T (xb + 22) 64 W := ⟨_, rfl⟩
  rw [← hA]
  have wA : SW (PQ xb) T A := by rw [hA]; exact SW_I _ _ (Or.inl rfl)
  have mA := m.sw wA
  simp only [mP mA, Option.bind_some]
  obtain ⟨B, hB⟩ : ∃ B, B = setI A (xb + 22) 65 0 := ⟨_, rfl⟩
  rw [← hB]
  have wB : SW (PQ xb) T B := wA.tr (by rw [hB]; exact SW_I _ _ (Or.inl rfl))
  have oB : ∀ f, f ≠ 64 → f ≠ 65 → mi B (xb + 22) f = mi T (xb + 22) f := fun f h1 h2 => by rw [hB, mi_setI_i, if_neg (by omega), hA, mi_setI_i, if_neg (by omega)]
  have b64 : mi B (xb + 22) 64 = W := by rw [hB, mi_setI_i, if_neg (by omega), hA, mi_setI_i, if_pos ⟨rfl, rfl⟩]
  have b65 : mi B (xb + 22) 65 = 0 := by rw [hB, mi_setI_i, if_pos ⟨rfl, rfl⟩]
  have b44 : mi B (xb + 22 + 44) = mi T (xb + 22 + 44) := by
    funext z
    rw [hB, mi_setI_i, if_neg (by omega), hA, mi_setI_i, if_neg (by omega)]
  obtain ⟨C, c1, c2, c3, -⟩ := M_c43 (xb := xb) 64 0 FU B (by omega) (by unfold FU; omega) (m.sw wB)
  rw [nI_0] at c1
  have o0 : mi C (xb + 22) = mi B (xb + 22) := (c2.2.2.2 (xb + 22) (by omega)).1
  have o44 : mi C (xb + 22 + 44) = mi B (xb + 22 + 44) := (c2.2.2.2 (xb + 22 + 44) (by omega)).1
  have wC : SW (PQ xb) T C := wB.tr (c2.mono (fun z hz => Or.inr (Or.inr hz)))
  obtain ⟨D, d1, d2, d3, d4, d5, d6⟩ := M_c62 (xb := xb) (T := C) n8 hγ (m.sw wC) (by rw [o0, oB 63 (by omega) (by omega)]; exact h63) (fun k hk => by rw [o44, b44]; exact hg k hk)
  refine ⟨D, c31_go c1 d1, ⟨wC.tr d2.1, fun f h1 h2 => by rw [d2.2 f h1 h2, o0, oB f h1 h2]⟩, by rw [d3, o0, b64], by rw [d4, o0, b65]; rfl, by rw [d5, o44, b44], fun i k hi hk => ?_⟩
  rw [d6 i k hi hk, c3 (8 * i + k) (by omega) (by omega), Int32.zero_add]
theorem M_counts {T : St} {W : Int32} {Z Z' : ZF} {Zt Zt' : Nat → Nat → ZF} (n8 : n ≤ 8) (hγ : ∀ k, k < n → γ k < 8) (m : MOK T (xb + 22)) (h63 : mi T (xb + 22) 63 = nI n) (hg : ∀ k, k < n → mi T (xb + 22 + 44) k = nI (γ k)) (hb : ∀ w, Z w 0 < 2 ^ 31) (hC : CB xb n T Z Zt) (hZ : ∀ w, Z' w 0 = Z w 0 + if w = W.toInt then 1 else 0) (hZt : ∀ a b w, a < n → b < n → Zt' a b w 1 = Zt a b w 1 + if w = W.toInt ∧ γ a = γ b then 1 else 0) : ∃ T', f_X12_counts T (xb + 22) W = some T' ∧ JW xb T T' ∧ mi T' (xb + 22 + 44) = mi T (xb + 22 + 44) ∧ CB xb n T' Z' Zt' := by
  obtain ⟨hz, hc⟩ := hC
  have hz' : ∀ a b w, a < n → b < n → Z' w 0 = 0 → Zt' a b w 1 = 0 := fun a b w h1 h2 h3 => by
    rw [hZ] at h3
    have e : ¬ w = W.toInt := fun q => by rw [if_pos q] at h3; omega
    rw [hZt a b w h1 h2, if_neg (fun q => e q.1), hz a b w h1 h2 (by omega)]
  have bt : ∀ c : Prop, ∀ [Decidable c], nI (if c then 1 else 0) = if c then 1 else 0 := fun c _ => by split <;> rfl
  -- a new best
  have new : (∀ w, W.toInt ≤ w → Z w 0 = 0) → ∃ T', f_X12_counts_31 T (xb + 22) W = some T' ∧ JW xb T T' ∧ mi T' (xb + 22 + 44) = mi T (xb + 22 + 44) ∧ CB xb n T' Z' Zt' := by
    intro hn
    obtain ⟨T', g1, g2, g3, g4, g5, g6⟩ := M_c31 W n8 hγ m h63 hg
    refine ⟨T', g1, g2, g5, hz', Or.inr ⟨?_, fun a b ha hb' => ?_⟩⟩
    · rw [g3, g4]
      refine ⟨?_, ?_, fun w hw => ?_⟩
      · rw [hZ, if_pos rfl]; omega
      · rw [hZ, if_pos rfl, hn W.toInt (Int.le_refl _)]; rfl
      · rw [hZ, if_neg (by omega), hn w (by omega)]
    · rw [g6 a b ha hb', g3, hZt a b _ ha hb', hz a b W.toInt ha hb' (hn _ (Int.le_refl _)), Nat.zero_add]
      by_cases c : γ a = γ b
      · rw [if_pos c, if_pos ⟨rfl, c⟩]; rfl
      · rw [if_neg c, if_neg (fun q => c q.2)]; rfl
  unfold f_X12_counts f_X12_counts_16
  simp only [mI m, Option.bind_some]
  rcases hc with ⟨h1, h2⟩ | ⟨⟨h1, h2, h3⟩, h4⟩
  · rw [if_pos (by rw [h1]; decide), if_pos h1]
    exact new (fun w _ => h2 w)
  · have hb1 := hb (mi T (xb + 22) 64).toInt
    have t65 : (mi T (xb + 22) 65).toInt = (Z (mi T (xb + 22) 64).toInt 0 : Int) := by rw [h2, nI_toInt hb1]
    have n0 : ¬ mi T (xb + 22) 65 ≤ 0 := by
      rw [le_i, t65]
      simp only [Int32.reduceToInt]
      omega
    have n1 : ¬ mi T (xb + 22) 65 = 0 := fun z => n0 (by rw [z]; decide)
    rw [if_neg n0]
    by_cases c1 : mi T (xb + 22) 64 ≤ W
    · rw [if_pos c1, if_neg n1]
      rw [le_i] at c1
      by_cases c2 : W ≤ mi T (xb + 22) 64
      · rw [if_pos c2]
        rw [le_i] at c2
        obtain ⟨T', g1, g2, g3, g4, g5, g6⟩ := M_c62 n8 hγ m h63 hg
        have eW : W.toInt = (mi T (xb + 22) 64).toInt := by omega
        refine ⟨T', g1, g2, g5, hz', Or.inr ⟨?_, fun a b ha hb' => ?_⟩⟩
        · rw [g3, g4]
          refine ⟨?_, ?_, fun w hw => ?_⟩
          · rw [hZ]; omega
          · rw [hZ, if_pos eW.symm, h2, nI_1]
          · rw [hZ, if_neg (by omega), h3 w hw]
        · rw [g6 a b ha hb', g3, hZt a b _ ha hb', h4 a b ha hb', ← nI_add]
          congr 1
          by_cases c : γ a = γ b
          · rw [if_pos c, if_pos ⟨eW.symm, c⟩]; rfl
          · rw [if_neg c, if_neg (fun q => c q.2)]; rfl
      · rw [if_neg c2]
        rw [le_i] at c2
        exact new (fun w hw => h3 w (by omega))
    · rw [if_neg c1]
      rw [le_i] at c1
      refine ⟨T, rfl, JW.rf _ _, rfl, hz', Or.inr ⟨⟨?_, ?_, fun w hw => ?_⟩, fun a b ha hb' => ?_⟩⟩
      · rw [hZ]; omega
      · rw [hZ, if_neg (by omega), h2]; rfl
      · rw [hZ, if_neg (by omega), h3 w hw]
      · rw [hZt a b _ ha hb', if_neg (fun q => by omega), Nat.add_zero]
        exact h4 a b ha hb'
end Cnt2
