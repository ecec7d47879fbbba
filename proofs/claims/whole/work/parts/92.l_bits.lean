theorem smt : (List.range 31).all (fun p => decide (((nI p &&& 31).toBitVec.smod 32).toNat = p)) = true := by decide +kernel
theorem shI {X p : Nat} (hX : X < 2 ^ 31) (hp : p < 31) : nI X >>> (nI p &&& 31) = nI (X >>> p) := by
  have hk : ((nI p &&& 31).toBitVec.smod 32).toNat = p := of_decide_eq_true (List.all_eq_true.mp smt p (List.mem_range.mpr hp))
  apply Int32.toBitVec_inj.mp
  rw [Int32.toBitVec_shiftRight]
  show ((nI X).toBitVec.sshiftRight ((nI p &&& 31).toBitVec.smod 32).toNat) = _
  rw [hk]
  have e : (nI X).toBitVec.toInt = (X : Int) := nI_toInt hX
  unfold BitVec.sshiftRight
  rw [e]
  show BitVec.ofInt 32 ((X >>> p : Nat) : Int) = (nI (X >>> p)).toBitVec
  rw [BitVec.ofInt_natCast]
  rfl
theorem andI1 (Y : Nat) : nI Y &&& 1 = nI (Y % 2) := by
  apply Int32.toBitVec_inj.mp
  rw [Int32.toBitVec_and]
  apply BitVec.eq_of_toNat_eq
  rw [BitVec.toNat_and]
  show (Y % 2 ^ 32) &&& 1 = (Y % 2) % 2 ^ 32
  rw [Nat.and_one_is_mod]
  omega
theorem bitI {X p : Nat} (hX : X < 2 ^ 31) (hp : p < 31) : ((nI X >>> (nI p &&& 31)) &&& 1) = if X.testBit p = true then 1 else 0 := by
  rw [shI hX hp, andI1]
  have e : (X.testBit p = true) ↔ X >>> p % 2 = 1 := by
    unfold Nat.testBit
    rw [Nat.and_comm, Nat.and_one_is_mod, bne_iff_ne]
    omega
  by_cases c : X.testBit p = true
  · rw [if_pos c, e.mp c]; rfl
  · rw [if_neg c]
    have : X >>> p % 2 = 0 := by
      have : ¬ (X >>> p % 2 = 1) := fun z => c (e.mpr z)
      omega
    rw [this]; rfl
theorem slt : (List.range 25).all (fun p => decide ((1 : Int32) <<< (nI p &&& 31) = nI (2 ^ p))) = true := by decide +kernel
theorem slI {p : Nat} (hp : p < 25) : (1 : Int32) <<< (nI p &&& 31) = nI (2 ^ p) := of_decide_eq_true (List.all_eq_true.mp slt p (List.mem_range.mpr hp))
/-- a set is one of those that are there -/
theorem set_lt {X np : Nat} : X < 2 ^ np ↔ X < 2 ^ np ∧ ∀ p, np ≤ p → X.testBit p = false := ⟨fun h => ⟨h, fun p hp => Nat.testBit_lt_two_pow (Nat.lt_of_lt_of_le h (Nat.pow_le_pow_right (by omega) hp))⟩, fun h => h.1⟩
theorem set_bits {X np : Nat} (h24 : X < 2 ^ 24) (h : ∀ p, np ≤ p → p < 24 → X.testBit p = false) : X < 2 ^ np := by
  apply Nat.lt_pow_two_of_testBit
  intro p hp
  by_cases c : p < 24
  · exact h p hp c
  · exact Nat.testBit_lt_two_pow (Nat.lt_of_lt_of_le h24 (Nat.pow_le_pow_right (by omega) (by omega)))
section JAll
variable {xb n : Nat} {pv : Nat → Nat → Int32} {br : Nat → Nat → Bool} {ps : Nat → Nat}
theorem M_joinAll {T : St} (n8 : n ≤ 8) (hP : ∀ T', JW xb T T' → PRo T' xb n pv br ps) (hw : ∀ i k, -5 ≤ wtv pv i k ∧ wtv pv i k ≤ 9) : ∃ T', f_X12_joinAll T (xb + 22) = some T' ∧ JW xb T T' ∧ BV (Pn (c0_ (wtv pv) br) 8 (List.range n)) (mi T' (xb + 22) 64) (mi T' (xb + 22) 65) ∧ ∀ a b, a < n → b < n → mi T' (xb + 22 + 45) (8 * a + b) = nI (Dn (wtv pv) br a b 8 (List.range n) (mi T' (xb + 22) 64).toInt 0) := by
  have m := (hP T (JW.rf _ _)).1
  unfold f_X12_joinAll
  simp only [mP m, Option.bind_some]
  obtain ⟨A, hA⟩ : ∃ A, A = setI T (xb + 22) 65 0 := ⟨_, rfl⟩
  rw [← hA]
  have sA : SW (PQ xb) T A := by rw [hA]; exact SW_I _ _ (Or.inl rfl)
  have wA : JW xb T A := ⟨sA, fun f h1 h2 => by rw [hA, mi_setI_i, if_neg (by omega)]⟩
  have a65 : mi A (xb + 22) 65 = 0 := by rw [hA, mi_setI_i, if_pos ⟨rfl, rfl⟩]
  have mA := m.sw sA
  obtain ⟨T', Z', Zt', f1, f2, f3, f4, f5, f6⟩ := JR_all (T0 := T) n8 hP hw n 0 32 (by omega) (by omega) A (fun _ => 0) 0 0 (fun _ _ => 0) (fun _ _ _ _ => 0) wA (fun k hk => by omega) (by omega) (fun B hB => by cases hB) rfl (by constructor <;> decide) (fun w => by
    have : 8 ^ n ≤ 8 ^ 8 := Nat.pow_le_pow_right (by omega) n8
    omega) ⟨fun a b w _ _ _ => rfl, Or.inl ⟨a65, fun w => rfl⟩⟩
  rw [nI_0] at f1
  simp only [mV mA]
  unfold F_X12_joins
  simp only [f1, Option.bind_some]
  have eR : List.range' 0 n = List.range n := List.range_eq_range'.symm
  have lr : (List.range n).length = n := List.length_range
  have e5 : ∀ w, Z' w 0 = Pn (c0_ (wtv pv) br) 8 (List.range n) w 0 := fun w => by
    rw [f5, eR]
    show 0 + Pn (c0_ (wtv pv) br) (List.range n).length (List.range n) w 0 = _
    rw [Nat.zero_add]
    exact Pn_fuel _ _ _ _ _ (Nat.le_refl _) (by rw [lr]; exact n8)
  have e6 : ∀ a b w, a < n → b < n → Zt' a b w 1 = Dn (wtv pv) br a b 8 (List.range n) w 0 := fun a b w ha hb => by
    rw [f6 a b w ha hb, eR]
    show 0 + Pn (cF (wtv pv) br a b) (List.range n).length (List.range n) w 1 = _
    rw [Nat.zero_add, Pn_fuel _ 8 _ _ _ (Nat.le_refl _) (by rw [lr]; exact n8)]
    exact Dn_eq 8 (List.range n) w (by rw [lr]; exact n8) List.nodup_range
  refine ⟨T', rfl, f2, ?_⟩
  rcases f4.2 with ⟨-, g2⟩ | ⟨⟨g1, g2, g3⟩, g4⟩
  · have h1 := Pn_one (wt := wtv pv) (br := br) 8 (List.range n)
    rw [← e5, g2] at h1
    omega
  · exact ⟨⟨by rw [← e5]; exact g1, by rw [← e5]; exact g2, fun w hw' => by rw [← e5]; exact g3 w hw'⟩, fun a b ha hb => by rw [g4 a b ha hb, e6 a b _ ha hb]⟩
end JAll
