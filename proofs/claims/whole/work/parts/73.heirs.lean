/-! HEIRS: by parts -/
/-- of how many parts c has one, of what p has (0: none), along c's way up -/
def ptF (M : MI) (H : Nat → Bool) (np p : Nat) : Nat → Nat → Nat
  | 0, c => if c = p then 1 else 0
  | n + 1, c => if c = p then 1 else if M 8 c = -1 then 0 else if M 9 (M 8 c).toNatClampNeg ≠ -1 ∧ H c = true then ptF M H np p n (M 8 c).toNatClampNeg * lcn M np H (M 8 c).toNatClampNeg else 0
def pt (M : MI) (H : Nat → Bool) (np p c : Nat) : Nat := ptF M H np p c c
def prt (M : MI) (H : Nat → Bool) (np p q : Nat) : Nat := if M 9 q = -1 then pt M H np p q else 0
section Heirs
variable {M : MI} {H : Nat → Bool} {np p : Nat}
theorem ptF_st (hp : PAR M np) (hn : np ≤ 24) : ∀ n c, c < np → c ≤ n → ptF M H np p n c = pt M H np p c := by
  intro n
  induction n with
  | zero =>
    intro c h1 h2
    have : c = 0 := by omega
    subst this; rfl
  | succ n ih =>
    intro c h1 h2
    by_cases e : c = n + 1
    · subst e; rfl
    · rw [← ih c h1 (by omega)]
      -- one more does nothing
      have key : ∀ m c, c < np → c ≤ m → ptF M H np p (m + 1) c = ptF M H np p m c := by
        intro m
        induction m with
        | zero =>
          intro c h1 h2
          have : c = 0 := by omega
          subst this
          show (if 0 = p then 1 else if M 8 0 = -1 then 0 else _) = if 0 = p then 1 else 0
          by_cases c1 : 0 = p
          · rw [if_pos c1, if_pos c1]
          · rw [if_neg c1, if_neg c1]
            rcases hp 0 h1 with z | ⟨j, j1, -⟩
            · rw [if_pos z]
            · omega
        | succ m ihm =>
          intro c h1 h2
          show (if c = p then 1 else if M 8 c = -1 then 0 else if M 9 (M 8 c).toNatClampNeg ≠ -1 ∧ H c = true then ptF M H np p (m + 1) (M 8 c).toNatClampNeg * lcn M np H (M 8 c).toNatClampNeg else 0) = (if c = p then 1 else if M 8 c = -1 then 0 else if M 9 (M 8 c).toNatClampNeg ≠ -1 ∧ H c = true then ptF M H np p m (M 8 c).toNatClampNeg * lcn M np H (M 8 c).toNatClampNeg else 0)
          rcases hp c h1 with z | ⟨j, j1, j2⟩
          · rw [if_pos z, if_pos z]
          · rw [j2, nI_clamp (by omega), ihm j (by omega) (by omega)]
      exact key n c h1 (by omega)
theorem pt_p (c : Nat) (e : c = p) : pt M H np p c = 1 := by
  unfold pt
  cases c with
  | zero => exact if_pos e
  | succ c => exact if_pos e
theorem pt_n (hp : PAR M np) {c : Nat} (hc : c < np) (e : c ≠ p) (h8 : M 8 c = -1) : pt M H np p c = 0 := by
  unfold pt
  cases c with
  | zero => exact if_neg e
  | succ c =>
    show (if c + 1 = p then 1 else if M 8 (c + 1) = -1 then 0 else _) = 0
    rw [if_neg e, if_pos h8]
theorem pt_s (hp : PAR M np) (hn : np ≤ 24) {c j : Nat} (hc : c < np) (e : c ≠ p) (hj : j < c) (h8 : M 8 c = nI j) : pt M H np p c = if M 9 j ≠ -1 ∧ H c = true then pt M H np p j * lcn M np H j else 0 := by
  have hne : M 8 c ≠ -1 := by rw [h8, Ne, eq_i, nI_toInt (by omega)]; simp only [Int32.reduceToInt]; omega
  obtain ⟨k, rfl⟩ : ∃ k, c = k + 1 := ⟨c - 1, by omega⟩
  show (if k + 1 = p then 1 else if M 8 (k + 1) = -1 then 0 else if M 9 (M 8 (k + 1)).toNatClampNeg ≠ -1 ∧ H (k + 1) = true then ptF M H np p k (M 8 (k + 1)).toNatClampNeg * lcn M np H (M 8 (k + 1)).toNatClampNeg else 0) = _
  rw [if_neg e, if_neg hne, h8, nI_clamp (by omega), ptF_st hp hn k j (by omega) (by omega)]
/-- the parts are few -/
theorem pt_le (hp : PAR M np) (hn : np ≤ 24) : ∀ c, c < np → pt M H np p c ≤ 2 ^ cntB (fun x => (List.range c).any (fun j => decide (M 8 x = nI j)) && H x) np := by
  intro c
  induction c using Nat.strongRecOn with
  | _ c ih =>
    intro hc
    have pos : 1 ≤ 2 ^ cntB (fun x => (List.range c).any (fun j => decide (M 8 x = nI j)) && H x) np := Nat.one_le_two_pow
    by_cases e : c = p
    · rw [pt_p c e]; exact pos
    · rcases hp c hc with z | ⟨j, j1, j2⟩
      · rw [pt_n hp hc e z]; omega
      · rw [pt_s hp hn hc e j1 j2]
        by_cases q : M 9 j ≠ -1 ∧ H c = true
        · rw [if_pos q]
          have h1 := ih j j1 (by omega)
          have h2 : lcn M np H j ≤ 2 ^ lcn M np H j := Nat.le_of_lt Nat.lt_two_pow_self
          refine Nat.le_trans (Nat.mul_le_mul h1 h2) ?_
          rw [← Nat.pow_add]
          refine Nat.pow_le_pow_right (by decide) ?_
          -- disjoint children
          unfold lcn
          have : ∀ n, n ≤ np → cntB (fun x => (List.range j).any (fun i => decide (M 8 x = nI i)) && H x) n + cntB (fun x => decide (M 8 x = nI j) && H x) n ≤ cntB (fun x => (List.range c).any (fun i => decide (M 8 x = nI i)) && H x) n := by
            intro n
            induction n with
            | zero => intro _; exact Nat.le_refl _
            | succ n ihn =>
              intro hle
              have h3 := ihn (by omega)
              show (_ + (if _ then 1 else 0)) + (_ + (if _ then 1 else 0)) ≤ _ + (if _ then 1 else 0)
              by_cases hH : H n = true
              · by_cases a1 : (List.range j).any (fun i => decide (M 8 n = nI i)) = true
                · have a2 : ¬ M 8 n = nI j := by
                    rw [List.any_eq_true] at a1
                    obtain ⟨i, i1, i2⟩ := a1
                    rw [List.mem_range] at i1
                    rw [decide_eq_true_eq] at i2
                    rw [i2, nI_eq (by omega) (by omega)]
                    omega
                  have a3 : (List.range c).any (fun i => decide (M 8 n = nI i)) = true := by
                    rw [List.any_eq_true] at a1 ⊢
                    obtain ⟨i, i1, i2⟩ := a1
                    rw [List.mem_range] at i1
                    exact ⟨i, List.mem_range.mpr (by omega), i2⟩
                  simp only [hH, a1, a2, a3, decide_false, Bool.and_true, Bool.false_eq_true, if_true, if_false]
                  omega
                · by_cases a2 : M 8 n = nI j
                  · have a3 : (List.range c).any (fun i => decide (M 8 n = nI i)) = true := by
                      rw [List.any_eq_true]
                      exact ⟨j, List.mem_range.mpr j1, by rw [decide_eq_true_eq]; exact a2⟩
                    rw [if_neg (by simp [a1]), if_pos (by simp [a2, hH]), if_pos (by show ((List.range c).any _ && H n) = true; rw [a3, hH]; rfl)]
                    omega
                  · rw [if_neg (by simp [a1]), if_neg (by simp [a2])]
                    omega
              · rw [if_neg (by simp [hH]), if_neg (by simp [hH])]
                omega
          exact this np (Nat.le_refl _)
        · rw [if_neg q]; omega
theorem pt_lt (hp : PAR M np) (hn : np ≤ 24) {c : Nat} (hc : c < np) : pt M H np p c ≤ 2 ^ 24 := by
  refine Nat.le_trans (pt_le hp hn c hc) (Nat.pow_le_pow_right (by decide) ?_)
  exact Nat.le_trans (cntB_le _ _) hn
end Heirs
