def wpB (M : MI) (c d : Nat) : Bool := decide (M 53 d = 1 ∧ M 49 d = M 49 c ∧ M 50 d = M 50 c)
def wpF (M : MI) (c : Nat) : Nat → Nat → Bool
  | 0, _ => false
  | n + 1, t => wpB M c t || wpF M c n (t + 1)
section Pay
variable {S : St} {xb nf np na nc c : Nat} {M : MI} {L : ML} {fa pa aa ca : Nat → Nat}
theorem X_was2 (x : XOK S xb) (cp : CP S xb M np pa) (ca' : CA S xb M L nf fa np pa na aa) (cc : CC S xb M L np pa na aa nc ca) (hc : c < nc) : ∀ (n t fu : Nat), t + n = nc → n < fu → f_X11_wasPaidBefore_2 fu S xb (some (ca c)) (nI t) = some (if wpF M c n t then 1 else 0) := by
  have n60 := cc.2.1
  have n24 := cp.2.1
  have n40 := ca'.2.1
  obtain ⟨kc, -, ⟨q, q1, q2, q3⟩, ⟨a, a1, a2, a3, -⟩, -⟩ := cc.2.2.2.1 c hc
  intro n
  induction n with
  | zero =>
    intro t fu h1 h2
    obtain ⟨fu, rfl⟩ : ∃ k, fu = k + 1 := ⟨fu - 1, by omega⟩
    unfold f_X11_wasPaidBefore_2
    simp only [xR_claims x, xV_claims x, L_size cc.2.2.1, Option.bind_some]
    rw [if_pos (nI_le (by omega) (by omega))]
    rfl
  | succ n ih =>
    intro t fu h1 h2
    obtain ⟨fu, rfl⟩ : ∃ k, fu = k + 1 := ⟨fu - 1, by omega⟩
    have ht : t < nc := by omega
    obtain ⟨kt, -, ⟨q', q1', q2', q3'⟩, ⟨a', a1', a2', a3', -⟩, -, -, -, -, k4, -⟩ := cc.2.2.2.1 t ht
    unfold f_X11_wasPaidBefore_2
    simp only [xR_claims x, xV_claims x, L_size cc.2.2.1, Option.bind_some]
    rw [if_neg (nI_ge (by omega) (by omega))]
    simp only [L_get cc.2.2.1 ht, castO_s kt, getI_s kt, getR_s kt, getR_s kc, k4, q3, q3', a3, a3', Option.bind_some, nI_1, ih (t + 1) fu (by omega) (by omega)]
    have hs : wpF M c (n + 1) t = (wpB M c t || wpF M c n (t + 1)) := rfl
    rw [hs]
    have eq1 : (some (pa q') = some (pa q)) ↔ M 49 t = M 49 c := by
      rw [q2, q2', nI_eq (by omega) (by omega)]
      exact ⟨fun z => cp.inj q1' q1 (Option.some.inj z), fun z => by rw [z]⟩
    have eq2 : (some (aa a') = some (aa a)) ↔ M 50 t = M 50 c := by
      rw [a2, a2', nI_eq (by omega) (by omega)]
      exact ⟨fun z => ca'.inj a1' a1 (Option.some.inj z), fun z => by rw [z]⟩
    by_cases d1 : M 53 t = 1
    · rw [if_pos d1]
      by_cases d2 : M 49 t = M 49 c
      · rw [if_pos (eq1.mpr d2)]
        by_cases d3 : M 50 t = M 50 c
        · rw [if_pos (eq2.mpr d3)]
          have : wpB M c t = true := by unfold wpB; exact decide_eq_true ⟨d1, d2, d3⟩
          rw [this, Bool.true_or, if_pos rfl]
        · rw [if_neg (fun z => d3 (eq2.mp z))]
          have : wpB M c t = false := by unfold wpB; exact decide_eq_false (fun z => d3 z.2.2)
          rw [this, Bool.false_or]
      · rw [if_neg (fun z => d2 (eq1.mp z))]
        have : wpB M c t = false := by unfold wpB; exact decide_eq_false (fun z => d2 z.2.1)
        rw [this, Bool.false_or]
    · rw [if_neg d1]
      have : wpB M c t = false := by unfold wpB; exact decide_eq_false (fun z => d1 z.1)
      rw [this, Bool.false_or]
theorem M_p44 {T : St} {a : Nat} (m : MOK T (xb + 22)) (h69 : mi T (xb + 22) 69 = nI nc) (n60 : nc ≤ 60) (hc : c < nc) (h49 : Mi T (xb + 22) 49 = M 49) (h50 : Mi T (xb + 22) 50 = M 50) (h53 : Mi T (xb + 22) 53 = M 53) (ha : M 50 c = nI a) : ∀ (n t fu : Nat), t + n = nc → n < fu → f_X12_pay_44 fu T (xb + 22) (nI c) (nI a) (nI t) = some (if wpF M c n t then .inl (-1, T) else .inr (xb + 22, nI c, nI a, T)) := by
  intro n
  induction n with
  | zero =>
    intro t fu h1 h2
    obtain ⟨fu, rfl⟩ : ∃ k, fu = k + 1 := ⟨fu - 1, by omega⟩
    unfold f_X12_pay_44
    simp only [mI m, h69, Option.bind_some]
    rw [if_pos (nI_le (by omega) (by omega))]
    rfl
  | succ n ih =>
    intro t fu h1 h2
    obtain ⟨fu, rfl⟩ : ∃ k, fu = k + 1 := ⟨fu - 1, by omega⟩
    have ht : t < nc := by omega
    have t60 : t < 60 := by omega
    have c60 : c < 60 := by omega
    have f49 : ∀ z, mi T (xb + 22 + 49) z = M 49 z := fun z => congrFun h49 z
    have f50 : ∀ z, mi T (xb + 22 + 50) z = M 50 z := fun z => congrFun h50 z
    have f53 : ∀ z, mi T (xb + 22 + 53) z = M 53 z := fun z => congrFun h53 z
    unfold f_X12_pay_44
    simp only [mI m, h69, Option.bind_some]
    rw [if_neg (nI_ge (by omega) (by omega))]
    simp only [mR_claimOn m, mL_claimOn m t60, mR_claimBy m, mL_claimBy m t60, mL_claimBy m c60, mR_claimState m, mL_claimState m t60, f49, f50, f53, Option.bind_some, nI_1, ih (t + 1) fu (by omega) (by omega)]
    have hs : wpF M c (n + 1) t = (wpB M c t || wpF M c n (t + 1)) := rfl
    rw [hs, ← ha]
    by_cases d3 : M 50 t = M 50 c
    · rw [if_pos d3]
      by_cases d2 : M 49 t = M 49 c
      · rw [if_pos d2]
        by_cases d1 : M 53 t = 1
        · rw [if_pos d1]
          have : wpB M c t = true := by unfold wpB; exact decide_eq_true ⟨d1, d2, d3⟩
          rw [this, Bool.true_or, if_pos rfl]
        · rw [if_neg d1]
          have : wpB M c t = false := by unfold wpB; exact decide_eq_false (fun z => d1 z.1)
          rw [this, Bool.false_or]
      · rw [if_neg d2]
        have : wpB M c t = false := by unfold wpB; exact decide_eq_false (fun z => d2 z.2.1)
        rw [this, Bool.false_or]
    · rw [if_neg d3]
      have : wpB M c t = false := by unfold wpB; exact decide_eq_false (fun z => d3 z.2.2)
      rw [this, Bool.false_or]
theorem M_p198 {T : St} {a s : Nat} {pd tot y : Int64} {fc fl : Int32} (m : MOK T (xb + 22)) (hc : c < 60) (ha : a < 40) (hs : s < 4) (hp : f_X12_paidOf T (xb + 22) (nI a) = some pd) (h52 : mi T (xb + 22 + 52) c = fc) (h39 : mi T (xb + 22 + 39) a = nI s) (h23 : mi T (xb + 22 + 23) s = fl) : f_X12_pay_198 T (xb + 22) (nI c) (nI a) tot y = (if lg_cmp (pd + y) tot ≤ 0 then some (y, setL (setL (setI T (xb + 22 + 53) c 1) (xb + 22 + 54) c y) (xb + 22 + 55) c (y * (if fl < fc then fl else fc).toInt64 / 100)) else some (-1, T)) := by
  have h255 : ∀ f : Int32, f_X12_pay_255 T (xb + 22) (nI c) y f = some (y, setL (setL (setI T (xb + 22 + 53) c 1) (xb + 22 + 54) c y) (xb + 22 + 55) c (y * f.toInt64 / 100)) := by
    intro f
    unfold f_X12_pay_255
    simp only [mR_claimState m, mS_claimState m hc, nrw15, Option.bind_some]
    obtain ⟨A, hA⟩ : ∃ A, A = setI T (xb + 22 + 53) c 1 := ⟨_, rfl⟩
    rw [← hA]
    have mA : MOK A (xb + 22) := by rw [hA]; exact m.sw (SW_I (P := fun _ => True) _ _ trivial)
    simp only [mR_paid mA, mS_paid mA hc, Option.bind_some]
    obtain ⟨B, hB⟩ : ∃ B, B = setL A (xb + 22 + 54) c y := ⟨_, rfl⟩
    rw [← hB]
    have mB : MOK B (xb + 22) := by rw [hB]; exact mA.sw (SW_L (P := fun _ => True) _ _ trivial)
    simp only [mR_toFinder mB, mS_toFinder mB hc, divL, if_neg (show ¬ ((100 : Int64) = 0) by decide), Option.bind_some]
  unfold f_X12_pay_198
  simp only [mV m, hp, mR_claimFee m, mL_claimFee m hc, h52, mR_fee m, mR_heldBy m, mL_heldBy m ha, h39, mL_fee m hs, h23, h255, Option.bind_some]
  by_cases d : lg_cmp (pd + y) tot ≤ 0
  · rw [if_pos d, if_pos d]
    by_cases e : fl ≤ fc
    · rw [if_pos e]
      by_cases e2 : fl < fc
      · rw [if_pos e2]
      · rw [if_neg e2]
        have : fl = fc := by
          have e3 := Int32.not_lt.mp e2
          rw [le_i] at e e3
          rw [eq_i]
          omega
        rw [this]
    · rw [if_neg e, if_neg (fun z => e (by rw [lt_i] at z; rw [le_i]; omega))]
  · rw [if_neg d, if_neg d]
theorem itv_rows {N : MI} {K : ML} {a : Nat} (h0 : N 0 = M 0) (h24 : N 24 = M 24) (h25 : N 25 = M 25) (h39 : N 39 = M 39) (h40 : N 40 = M 40) (h42 : K 42 = L 42) : itv N K a = itv M L a := by
  unfold itv
  rw [h0, h24, h25, h39, h40, h42]
theorem pdv_rows {N : MI} {K : ML} {a : Nat} {l : List Nat} {v : Int64} (h50 : N 50 = M 50) (h53 : N 53 = M 53) (h54 : K 54 = L 54) : pdv N K a l v = pdv M L a l v := by
  unfold pdv
  rw [h50, h53, h54]
end Pay
