theorem cntB_filter (p : Nat → Bool) (n : Nat) : ((List.range n).filter p).length = cntB p n := by
  induction n with
  | zero => rfl
  | succ n ih =>
    rw [List.range_succ, List.filter_append, List.length_append, ih]
    show _ = cntB p n + (if p n then 1 else 0)
    by_cases c : p n = true
    · simp [c]
    · simp [c]
/-- a growth of account a -/
def grB (M : MI) (a : Nat) (x : Nat) : Bool := decide (M 14 x = nI a) && decide (M 15 x = 6)
theorem EL.cnt {M : MI} {ne a : Nat} {l : List Nat} (h : EL M ne a l) : (l.filter (fun x => decide (M 15 x = 6))).length = cntB (grB M a) ne := by
  rw [(h.1.filter _).length_eq, List.filter_filter, ← cntB_filter]
  congr 2
  funext x
  unfold grB
  rw [Bool.and_comm]
theorem X_grew {S : St} {a l n d' : Nat} {f : Nat → Nat} {d : Int32} (ha : kd S a = 1) (hr : mr S a 5 = some l) (hL : LI S l n f) (hf : ∀ k, k < n → kd S (f k) = 4) : ∀ (m t fu : Nat), t + m = n → m < fu → f_X0_grewOn_2 fu S a d (nI t) = some (if ∃ k, k < n ∧ t ≤ k ∧ (mi S (f k) 1 = d ∧ mi S (f k) 0 = -1) then 1 else 0)
  | m, t, 0, _, h2 => by omega
  | 0, t, fu + 1, h1, _ => by
    have hb := hL.2.2.1
    unfold f_X0_grewOn_2
    simp only [getR_s ha, hr, Option.bind_some, rcv_s hL.1, L_size hL]
    rw [if_pos (nI_le (by omega) (by omega)), if_neg]
    rintro ⟨k, k1, k2, -⟩; omega
  | m + 1, t, fu + 1, h1, h2 => by
    have hb := hL.2.2.1
    have ht : t < n := by omega
    unfold f_X0_grewOn_2
    simp only [getR_s ha, hr, Option.bind_some, rcv_s hL.1, L_size hL]
    rw [if_neg (nI_ge (by omega) (by omega))]
    simp only [L_get hL ht, castO_s (hf t ht), getI_s (hf t ht), Option.bind_some]
    rw [nI_1, X_grew (d' := d') ha hr hL hf m (t + 1) fu (by omega) (by omega)]
    by_cases c1 : mi S (f t) 1 = d ∧ mi S (f t) 0 = -1
    · rw [if_pos c1.1, if_pos c1.2, if_pos ⟨t, ht, Nat.le_refl _, c1⟩]
    · have e : (∃ k, k < n ∧ t + 1 ≤ k ∧ (mi S (f k) 1 = d ∧ mi S (f k) 0 = -1)) ↔ ∃ k, k < n ∧ t ≤ k ∧ (mi S (f k) 1 = d ∧ mi S (f k) 0 = -1) := by
        refine ⟨fun ⟨k, k1, k2, k3⟩ => ⟨k, k1, by omega, k3⟩, fun ⟨k, k1, k2, k3⟩ => ⟨k, k1, ?_, k3⟩⟩
        rcases Nat.lt_or_ge t k with c | c
        · exact c
        · exact absurd ((show k = t by omega) ▸ k3) c1
      by_cases c2 : mi S (f t) 1 = d
      · rw [if_pos c2, if_neg (fun q => c1 ⟨c2, q⟩)]
        congr 1
        exact ifc e
      · rw [if_neg c2]
        congr 1
        exact ifc e
theorem M_grow {S : St} {mb ne a : Nat} (m : MOK S mb) (h4 : mi S mb 4 = nI ne) (hne : ne ≤ 600) (ha : a < 2 ^ 31) (d up bb : Int32) : ∀ (n t fu : Nat), t + n = ne → n < fu → f_X12_grow_64 fu S mb (nI a) d up bb (nI (cntB (grB (Mi S mb) a) t)) (nI t) = if ∃ x, x < ne ∧ t ≤ x ∧ (grB (Mi S mb) a x = true ∧ Mi S mb 16 x = d) then some (0, S) else if cntB (grB (Mi S mb) a) ne = 4 then some (0, S) else (f_X12_tells S mb (nI a) 6 d up bb).bind fun S137 => some (1, S137)
  | n, t, 0, _, h2 => by omega
  | 0, t, fu + 1, h1, _ => by
    unfold f_X12_grow_64
    simp only [mI m, h4, Option.bind_some]
    have ht : t = ne := by omega
    subst ht
    have := cntB_le (grB (Mi S mb) a) t
    rw [if_pos (nI_le (by omega) (by omega)), if_neg (show ¬ ∃ x, x < t ∧ t ≤ x ∧ (grB (Mi S mb) a x = true ∧ Mi S mb 16 x = d) by rintro ⟨x, x1, x2, -⟩; omega)]
    by_cases c : cntB (grB (Mi S mb) a) t = 4
    · rw [if_pos (by rw [c]; rfl), if_pos c]
    · rw [if_neg (by rw [show (4 : Int32) = nI 4 from rfl, nI_eq (by omega) (by omega)]; exact c), if_neg c]
      simp only [mV m, Option.bind_some]
  | n + 1, t, fu + 1, h1, h2 => by
    unfold f_X12_grow_64
    have ht : t < 600 := by omega
    simp only [mI m, h4, Option.bind_some]
    rw [if_neg (nI_ge (by omega) (by omega))]
    simp only [mR_actOf m, mL_actOf m ht, mR_actSort m, mL_actSort m ht, mR_actOn m, mL_actOn m ht, Option.bind_some, nI_1]
    have ih := M_grow m h4 hne ha d up bb n (t + 1) fu (by omega) (by omega)
    show (if Mi S mb 14 t = nI a then if Mi S mb 15 t = 6 then if Mi S mb 16 t = d then _ else _ else _ else _) = _
    have e : ¬ (grB (Mi S mb) a t = true ∧ Mi S mb 16 t = d) → ((∃ x, x < ne ∧ t + 1 ≤ x ∧ (grB (Mi S mb) a x = true ∧ Mi S mb 16 x = d)) ↔ ∃ x, x < ne ∧ t ≤ x ∧ (grB (Mi S mb) a x = true ∧ Mi S mb 16 x = d)) := by
      intro hn
      refine ⟨fun ⟨k, k1, k2, k3⟩ => ⟨k, k1, by omega, k3⟩, fun ⟨k, k1, k2, k3⟩ => ⟨k, k1, ?_, k3⟩⟩
      rcases Nat.lt_or_ge t k with c | c
      · exact c
      · exact absurd ((show k = t by omega) ▸ k3) hn
    by_cases c1 : Mi S mb 14 t = nI a
    · rw [if_pos c1]
      by_cases c2 : Mi S mb 15 t = 6
      · have g : grB (Mi S mb) a t = true := by unfold grB; simp [c1, c2]
        have hc : cntB (grB (Mi S mb) a) (t + 1) = cntB (grB (Mi S mb) a) t + 1 := by
          show _ + (if grB (Mi S mb) a t then 1 else 0) = _
          rw [if_pos g]
        rw [if_pos c2]
        by_cases c3 : Mi S mb 16 t = d
        · rw [if_pos c3, if_pos ⟨t, by omega, Nat.le_refl _, g, c3⟩]
        · rw [if_neg c3, ← hc, ih]
          exact ifc (e (fun q => c3 q.2))
      · have g : ¬ grB (Mi S mb) a t = true := by unfold grB; simp [c2]
        have hc : cntB (grB (Mi S mb) a) (t + 1) = cntB (grB (Mi S mb) a) t := by
          show _ + (if grB (Mi S mb) a t then 1 else 0) = _
          rw [if_neg g]; rfl
        rw [if_neg c2, ← hc, ih]
        exact ifc (e (fun q => g q.1))
    · have g : ¬ grB (Mi S mb) a t = true := by unfold grB; simp [c1]
      have hc : cntB (grB (Mi S mb) a) (t + 1) = cntB (grB (Mi S mb) a) t := by
        show _ + (if grB (Mi S mb) a t then 1 else 0) = _
        rw [if_neg g]; rfl
      rw [if_neg c1, ← hc, ih]
      exact ifc (e (fun q => g q.1))
