/-! LOOKS: the reference's table -/
def gsm (G : Nat → Nat) : List Nat → Nat
  | [] => 0
  | x :: l => G x + gsm G l
def msm : List Nat → Nat
  | [] => 0
  | x :: l => 2 ^ x + msm l
def wg (G p : Nat → Nat) (y : Nat) : Int := (G y : Int) * 2147483648 - (p y : Int) * 1048576 - (2 ^ y : Nat)
section En
variable {G p : Nat → Nat}
theorem wth_eq (A : List Nat) : wth (wg G p) A = (gsm G A : Int) * 2147483648 - (cst p A : Int) * 1048576 - (msm A : Int) := by
  induction A with
  | nil =>
    show (0 : Int) = ((0 : Nat) : Int) * 2147483648 - ((0 : Nat) : Int) * 1048576 - ((0 : Nat) : Int)
    omega
  | cons x A ih =>
    show wg G p x + wth (wg G p) A = ((G x + gsm G A : Nat) : Int) * 2147483648 - ((p x + cst p A : Nat) : Int) * 1048576 - ((2 ^ x + msm A : Nat) : Int)
    rw [ih]
    unfold wg
    omega
theorem gsm_sn (A : List Nat) (y : Nat) : gsm G (A ++ [y]) = gsm G A + G y := by
  induction A with
  | nil => show G y + 0 = 0 + G y; omega
  | cons x A ih => show G x + gsm G (A ++ [y]) = G x + gsm G A + G y; rw [ih]; omega
theorem cst_sn (A : List Nat) (y : Nat) : cst p (A ++ [y]) = cst p A + p y := by
  induction A with
  | nil => show p y + 0 = 0 + p y; omega
  | cons x A ih => show p x + cst p (A ++ [y]) = p x + cst p A + p y; rw [ih]; omega
theorem msm_sn (A : List Nat) (y : Nat) : msm (A ++ [y]) = msm A + 2 ^ y := by
  induction A with
  | nil => show 2 ^ y + 0 = 0 + 2 ^ y; omega
  | cons x A ih => show 2 ^ x + msm (A ++ [y]) = 2 ^ x + msm A + 2 ^ y; rw [ih]; omega
theorem gsm_le (hG : ∀ y, G y ≤ 999999) (A : List Nat) : gsm G A ≤ 999999 * A.length := by
  induction A with
  | nil => exact Nat.le_refl _
  | cons x A ih =>
    have := hG x
    show G x + gsm G A ≤ 999999 * (A.length + 1)
    omega
theorem sb1 {A l : List Nat} {y : Nat} (h : A.Sublist (l ++ [y])) : A.Sublist l ∨ ∃ B, B.Sublist l ∧ A = B ++ [y] := by
  obtain ⟨A1, A2, e, h1, h2⟩ := List.sublist_append_iff.mp h
  cases h2 with
  | cons _ h3 =>
    rw [List.sublist_nil.mp h3, List.append_nil] at e
    left; rw [e]; exact h1
  | cons_cons _ h3 =>
    rw [List.sublist_nil.mp h3] at e
    exact Or.inr ⟨A1, h1, e⟩
theorem msm_lt : ∀ (y : Nat) (A : List Nat), A.Sublist (List.range y) → msm A < 2 ^ y := by
  intro y
  induction y with
  | zero =>
    intro A h
    rw [List.sublist_nil.mp h]
    exact Nat.one_pos
  | succ y ih =>
    intro A h
    rw [List.range_succ] at h
    rcases sb1 h with e | ⟨B, e1, e2⟩
    · have := ih A e
      rw [Nat.pow_succ]; omega
    · have := ih B e1
      rw [e2, msm_sn, Nat.pow_succ]; omega
theorem orI {a : Nat} {y : Nat} (ha : a < 2 ^ y) : nI a ||| nI (2 ^ y) = nI (a + 2 ^ y) := by
  apply Int32.toBitVec_inj.mp
  rw [Int32.toBitVec_or]
  show BitVec.ofNat 32 a ||| BitVec.ofNat 32 (2 ^ y) = BitVec.ofNat 32 (a + 2 ^ y)
  have h := Nat.two_pow_add_eq_or_of_lt ha 1
  rw [Nat.mul_one] at h
  rw [← BitVec.ofNat_or, Nat.or_comm, ← h, Nat.add_comm]
/-- what a place of the table says of the choices out of l: so many, at that cost -/
def EN (G p : Nat → Nat) (l : List Nat) (n c : Nat) (a b : Int32) : Prop := (a = -1 ∧ ∀ A : List Nat, A.Sublist l → ¬ (A.length = n ∧ cst p A = c)) ∨ ∃ A : List Nat, A.Sublist l ∧ A.length = n ∧ cst p A = c ∧ a = nI (gsm G A) ∧ b = nI (msm A) ∧ ∀ A' : List Nat, A'.Sublist l → A'.length = n → cst p A' = c → wth (wg G p) A' ≤ wth (wg G p) A
theorem EN_old {l : List Nat} {n c y : Nat} {a b : Int32} (h : EN G p l n c a b) (hc : c < p y ∨ n = 0) : EN G p (l ++ [y]) n c a b := by
  have no : ∀ B : List Nat, ¬ ((B ++ [y]).length = n ∧ cst p (B ++ [y]) = c) := fun B z => by
    rw [cst_sn, List.length_append] at z
    have : ([y] : List Nat).length = 1 := rfl
    omega
  rcases h with ⟨h1, h2⟩ | ⟨A, a1, a2, a3, a4, a5, a6⟩
  · refine Or.inl ⟨h1, fun A hA z => ?_⟩
    rcases sb1 hA with e | ⟨B, e1, e2⟩
    · exact h2 A e z
    · rw [e2] at z; exact no B z
  · refine Or.inr ⟨A, a1.trans (List.sublist_append_left _ _), a2, a3, a4, a5, fun A' hA q1 q2 => ?_⟩
    rcases sb1 hA with e | ⟨B, e1, e2⟩
    · exact a6 A' e q1 q2
    · rw [e2] at q1 q2; exact absurd ⟨q1, q2⟩ (no B)
section Step
variable {l : List Nat} {n c y : Nat} {a b a' b' : Int32}
/-- the reference leaves the place as it is -/
def skp (a b a' b' v o : Int32) : Prop := a' = -1 ∨ a' + v < a ∨ a' + v = a ∧ ¬ (b' ||| o) < b
theorem EN_in (hG : ∀ y, G y ≤ 999999) (hy : y < 20) (hl : l.Sublist (List.range y)) {A : List Nat} (hA : A.Sublist l) : gsm G A + G y < 2 ^ 31 ∧ (nI (gsm G A) + nI (G y) = nI (gsm G A + G y)) ∧ msm A < 2 ^ y ∧ msm A + 2 ^ y < 1048576 := by
  have l1 := gsm_le hG A
  have l2 := (hA.trans hl).length_le
  rw [List.length_range] at l2
  have l3 := hG y
  have l4 := msm_lt y A (hA.trans hl)
  have l5 : (2 : Nat) ^ y ≤ 2 ^ 19 := Nat.pow_le_pow_right (by omega) (by omega)
  exact ⟨by omega, nI_add _ _, l4, by omega⟩
theorem EN_skip (hG : ∀ y, G y ≤ 999999) (hy : y < 20) (hl : l.Sublist (List.range y)) (h : EN G p l n c a b) (h' : EN G p l (n - 1) (c - p y) a' b') (hn : 0 < n) (hc : p y ≤ c) (hs : skp a b a' b' (nI (G y)) (nI (2 ^ y))) : EN G p (l ++ [y]) n c a b := by
  have sn : ∀ B : List Nat, (B ++ [y]).length = n → cst p (B ++ [y]) = c → B.length = n - 1 ∧ cst p B = c - p y := fun B z1 z2 => by
    rw [List.length_append] at z1
    rw [cst_sn] at z2
    have : ([y] : List Nat).length = 1 := rfl
    omega
  rcases h with ⟨h1, h2⟩ | ⟨A, a1, a2, a3, a4, a5, a6⟩
  · refine Or.inl ⟨h1, fun A hA z => ?_⟩
    rcases sb1 hA with e | ⟨B, e1, e2⟩
    · exact h2 A e z
    · rw [e2] at z
      have z' := sn B z.1 z.2
      rcases h' with ⟨g1, g2⟩ | ⟨D, d1, d2, d3, d4, d5, d6⟩
      · exact g2 B e1 z'
      · obtain ⟨i1, i2, i3, i4⟩ := EN_in hG hy hl d1
        have n1 : (-1 : Int32).toInt = -1 := rfl
        rcases hs with q | q | q
        · exact nI_ne1 (s := gsm G D) (by omega) (by rw [← d4]; exact q)
        · rw [d4, i2, h1, lt_i, nI_toInt (by omega), n1] at q
          omega
        · have q1 := q.1
          rw [d4, i2, h1] at q1
          exact nI_ne1 (by omega) q1
  · refine Or.inr ⟨A, a1.trans (List.sublist_append_left _ _), a2, a3, a4, a5, fun A' hA q1 q2 => ?_⟩
    rcases sb1 hA with e | ⟨B, e1, e2⟩
    · exact a6 A' e q1 q2
    · rw [e2] at q1 q2
      have z' := sn B q1 q2
      rcases h' with ⟨g1, g2⟩ | ⟨D, d1, d2, d3, d4, d5, d6⟩
      · exact absurd z' (g2 B e1)
      · have le1 := d6 B e1 z'.1 z'.2
        obtain ⟨i1, i2, i3, i4⟩ := EN_in hG hy hl d1
        obtain ⟨j1, j2, j3, j4⟩ := EN_in hG hy hl a1
        have key : wth (wg G p) (D ++ [y]) ≤ wth (wg G p) A := by
          rw [wth_eq, wth_eq, gsm_sn, cst_sn, msm_sn, d3, a3]
          rcases hs with q | q | q
          · exact absurd (d4.symm.trans q) (nI_ne1 (by omega))
          · rw [d4, i2, a4, lt_i, nI_toInt (by omega), nI_toInt (by omega)] at q
            omega
          · have q1 := q.1
            have q2 := q.2
            rw [d4, i2, a4, nI_eq (by omega) (by omega)] at q1
            rw [d5, orI i3, a5, lt_i, nI_toInt (by omega), nI_toInt (by omega)] at q2
            omega
        rw [e2]
        rw [wth_eq, gsm_sn, cst_sn, msm_sn] at key ⊢
        rw [wth_eq, wth_eq] at le1
        omega
theorem EN_take (hG : ∀ y, G y ≤ 999999) (hy : y < 20) (hl : l.Sublist (List.range y)) (h : EN G p l n c a b) (h' : EN G p l (n - 1) (c - p y) a' b') (hn : 0 < n) (hc : p y ≤ c) (hs : ¬ skp a b a' b' (nI (G y)) (nI (2 ^ y))) : EN G p (l ++ [y]) n c (a' + nI (G y)) (b' ||| nI (2 ^ y)) := by
  have sn : ∀ B : List Nat, (B ++ [y]).length = n → cst p (B ++ [y]) = c → B.length = n - 1 ∧ cst p B = c - p y := fun B z1 z2 => by
    rw [List.length_append] at z1
    rw [cst_sn] at z2
    have : ([y] : List Nat).length = 1 := rfl
    omega
  rcases h' with ⟨g1, -⟩ | ⟨D, d1, d2, d3, d4, d5, d6⟩
  · exact absurd (Or.inl g1) hs
  · obtain ⟨i1, i2, i3, i4⟩ := EN_in hG hy hl d1
    refine Or.inr ⟨D ++ [y], d1.append_right [y], ?_, ?_, ?_, ?_, fun A' hA q1 q2 => ?_⟩
    · rw [List.length_append, d2]
      show n - 1 + 1 = n
      omega
    · rw [cst_sn, d3]; omega
    · rw [d4, i2, gsm_sn]
    · rw [d5, orI i3, msm_sn]
    · rcases sb1 hA with e | ⟨B, e1, e2⟩
      · rcases h with ⟨-, h2⟩ | ⟨A, a1, a2, a3, a4, a5, a6⟩
        · exact absurd ⟨q1, q2⟩ (h2 A' e)
        · have le1 := a6 A' e q1 q2
          obtain ⟨j1, j2, j3, j4⟩ := EN_in hG hy hl a1
          have n2 : ¬ a' + nI (G y) < a := fun z => hs (Or.inr (Or.inl z))
          have n3 : ¬ (a' + nI (G y) = a ∧ ¬ (b' ||| nI (2 ^ y)) < b) := fun z => hs (Or.inr (Or.inr z))
          rw [d4, i2, a4, lt_i, nI_toInt (by omega), nI_toInt (by omega)] at n2
          have key : wth (wg G p) A ≤ wth (wg G p) (D ++ [y]) := by
            rw [wth_eq, wth_eq, gsm_sn, cst_sn, msm_sn, d3, a3]
            by_cases ee : gsm G D + G y = gsm G A
            · have : (b' ||| nI (2 ^ y)) < b := by
                by_cases z : (b' ||| nI (2 ^ y)) < b
                · exact z
                · exact absurd ⟨by rw [d4, i2, a4, ee], z⟩ n3
              rw [d5, orI i3, a5, lt_i, nI_toInt (by omega), nI_toInt (by omega)] at this
              omega
            · omega
          omega
      · rw [e2] at q1 q2 ⊢
        have z' := sn B q1 q2
        have le1 := d6 B e1 z'.1 z'.2
        rw [wth_eq, wth_eq, gsm_sn, cst_sn, msm_sn, gsm_sn, cst_sn, msm_sn]
        rw [wth_eq, wth_eq] at le1
        omega
end Step
end En
