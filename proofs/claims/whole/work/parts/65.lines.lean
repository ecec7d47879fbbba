/-! LINES OF HEIRS -/
def hlF (M : MI) (np : Nat) : Nat → Nat → Bool
  | 0, q => decide (M 9 q = -1)
  | n + 1, q => decide (M 9 q = -1) || (List.range np).any (fun c => decide (M 8 c = nI q) && hlF M np n c)
/-- parents come ahead -/
def PAR (M : MI) (np : Nat) : Prop := ∀ c, c < np → M 8 c = -1 ∨ ∃ j, j < c ∧ M 8 c = nI j
theorem CP.par {S : St} {xb np : Nat} {M : MI} {pa : Nat → Nat} (h : CP S xb M np pa) : PAR M np := fun c hc => by
  rcases (h.2.2.2 c hc).2.2.2.2.2.2.2.2.2.2.2 with ⟨e, -⟩ | ⟨j, j1, j2, -⟩
  · exact Or.inl e
  · exact Or.inr ⟨j, j1, j2⟩
section Lines
variable {M : MI} {np : Nat}
theorem PAR.lt (h : PAR M np) (hn : np ≤ 24) {c q : Nat} (hc : c < np) (hq : q < 2 ^ 31) (e : M 8 c = nI q) : q < c := by
  rcases h c hc with z | ⟨j, j1, j2⟩
  · rw [z, eq_i, nI_toInt hq] at e
    simp only [Int32.reduceToInt] at e
    omega
  · rw [j2, nI_eq (by omega) hq] at e
    omega
theorem any_congr {l : List Nat} {p q : Nat → Bool} (h : ∀ x, x ∈ l → p x = q x) : l.any p = l.any q := by
  induction l with
  | nil => rfl
  | cons x l ih => rw [List.any_cons, List.any_cons, h x (by simp), ih (fun y hy => h y (by simp [hy]))]
theorem hlF_st (h : PAR M np) (hn : np ≤ 24) : ∀ (n q : Nat), q < np → np ≤ n + q → hlF M np (n + 1) q = hlF M np n q := by
  intro n
  induction n with
  | zero => intro q h1 h2; omega
  | succ n ih =>
    intro q h1 h2
    show (decide (M 9 q = -1) || (List.range np).any (fun c => decide (M 8 c = nI q) && hlF M np (n + 1) c)) = (decide (M 9 q = -1) || (List.range np).any (fun c => decide (M 8 c = nI q) && hlF M np n c))
    congr 1
    refine any_congr (fun c hc => ?_)
    rw [List.mem_range] at hc
    by_cases e : M 8 c = nI q
    · have := h.lt hn hc (by omega) e
      rw [ih c hc (by omega)]
    · simp [e]
theorem hlF_HL (h : PAR M np) (hn : np ≤ 24) : HL M np (hlF M np np) := by
  intro q hq
  rw [← hlF_st h hn np q hq (by omega)]
  show (decide (M 9 q = -1) || (List.range np).any (fun c => decide (M 8 c = nI q) && hlF M np np c)) = true ↔ _
  rw [Bool.or_eq_true, decide_eq_true_eq, List.any_eq_true]
  constructor
  · rintro (e | ⟨c, h1, h2⟩)
    · exact Or.inl e
    · rw [List.mem_range] at h1
      rw [Bool.and_eq_true, decide_eq_true_eq] at h2
      exact Or.inr ⟨c, h1, h2⟩
  · rintro (e | ⟨c, h1, h2, h3⟩)
    · exact Or.inl e
    · exact Or.inr ⟨c, List.mem_range.mpr h1, by rw [Bool.and_eq_true, decide_eq_true_eq]; exact ⟨h2, h3⟩⟩
theorem HL.one (h : PAR M np) (hn : np ≤ 24) {H K : Nat → Bool} (a : HL M np H) (b : HL M np K) : ∀ (n q : Nat), q < np → np ≤ n + q → H q = K q := by
  intro n
  induction n with
  | zero => intro q h1 h2; omega
  | succ n ih =>
    intro q h1 h2
    rw [Bool.eq_iff_iff, a q h1, b q h1]
    constructor
    · rintro (e | ⟨c, c1, c2, c3⟩)
      · exact Or.inl e
      · have := h.lt hn c1 (by omega) c2
        exact Or.inr ⟨c, c1, c2, by rw [← ih c c1 (by omega)]; exact c3⟩
    · rintro (e | ⟨c, c1, c2, c3⟩)
      · exact Or.inl e
      · have := h.lt hn c1 (by omega) c2
        exact Or.inr ⟨c, c1, c2, by rw [ih c c1 (by omega)]; exact c3⟩
theorem cntB_pos {p : Nat → Bool} {n : Nat} : 0 < cntB p n ↔ ∃ c, c < n ∧ p c = true := by
  induction n with
  | zero => exact ⟨fun h => absurd h (by simp [cntB]), fun ⟨c, h, _⟩ => by omega⟩
  | succ n ih =>
    show 0 < cntB p n + (if p n then 1 else 0) ↔ _
    constructor
    · intro h
      by_cases c : p n = true
      · exact ⟨n, by omega, c⟩
      · rw [if_neg c] at h
        obtain ⟨z, z1, z2⟩ := ih.mp (by omega)
        exact ⟨z, by omega, z2⟩
    · rintro ⟨c, c1, c2⟩
      by_cases e : c = n
      · rw [← e, if_pos c2]; omega
      · have := ih.mpr ⟨c, by omega, c2⟩
        omega
/-- how many from t on -/
def cntF (p : Nat → Bool) (t n : Nat) : Nat := cntB (fun c => decide (t ≤ c) && p c) n
theorem cntF_0 (p : Nat → Bool) (n : Nat) : cntF p 0 n = cntB p n := cntB_congr (fun x _ => by simp)
theorem cntF_n (p : Nat → Bool) {t n : Nat} (h : n ≤ t) : cntF p t n = 0 := by
  unfold cntF
  induction n with
  | zero => rfl
  | succ n ih =>
    show cntB _ n + (if decide (t ≤ n) && p n then 1 else 0) = 0
    rw [ih (by omega), if_neg (by simp; omega)]
theorem cntF_s (p : Nat → Bool) {t n : Nat} (h : t < n) : cntF p t n = cntF p (t + 1) n + (if p t then 1 else 0) := by
  induction n with
  | zero => omega
  | succ n ih =>
    have e1 : cntF p t (n + 1) = cntF p t n + (if decide (t ≤ n) && p n then 1 else 0) := rfl
    have e2 : cntF p (t + 1) (n + 1) = cntF p (t + 1) n + (if decide (t + 1 ≤ n) && p n then 1 else 0) := rfl
    rw [e1, e2]
    by_cases c : t = n
    · subst c
      rw [cntF_n p (Nat.le_refl _), cntF_n p (by omega)]
      simp
      intro q
      omega
    · rw [ih (by omega)]
      have h1 : t ≤ n := by omega
      have h2 : t + 1 ≤ n := by omega
      simp only [h1, h2, decide_true, Bool.true_and]
      omega
end Lines
theorem X_lives {S : St} {a : Nat} (hk : kd S a = 9) : f_X8_lives S a = some (if mi S a 6 = -1 then 1 else 0) := by
  unfold f_X8_lives
  simp only [getI_s hk, Option.bind_some]
  split <;> rfl
theorem X_lin2 {xb np : Nat} {pa : Nat → Nat} : ∀ (n t fu : Nat) (T : St), t + n = np → n < fu → XOK T xb → LI T (xb + 2) np pa → (∀ i, i < np → kd T (pa i) = 9) → (∀ i, i < np → xb + 82 ≤ pa i) → ∃ T', f_X11_countLines_2 fu T xb (nI t) = some (xb, T') ∧ SW (fun z => ∃ i, i < np ∧ z = pa i) T T' ∧ (∀ i k, i < np → k ≠ 7 → mi T' (pa i) k = mi T (pa i) k) ∧ (∀ i, i < np → (t ≤ i → mi T' (pa i) 7 = 0) ∧ (mi T (pa i) 7 = 0 → mi T' (pa i) 7 = 0)) := by
  intro n
  induction n with
  | zero =>
    intro t fu T h1 h2 x l hk hb
    obtain ⟨fu, rfl⟩ : ∃ k, fu = k + 1 := ⟨fu - 1, by omega⟩
    have h5 := l.2.2.1
    unfold f_X11_countLines_2
    simp only [xR_persons x, xV_persons x, L_size l, Option.bind_some]
    rw [if_pos (nI_le (by omega) (by omega))]
    exact ⟨T, rfl, SW.rf _ _, fun _ _ _ _ => rfl, fun i hi => ⟨fun h => by omega, fun h => h⟩⟩
  | succ n ih =>
    intro t fu T h1 h2 x l hk hb
    obtain ⟨fu, rfl⟩ : ∃ k, fu = k + 1 := ⟨fu - 1, by omega⟩
    have h5 := l.2.2.1
    have ht : t < np := by omega
    unfold f_X11_countLines_2
    simp only [xR_persons x, xV_persons x, L_size l, Option.bind_some]
    rw [if_neg (nI_ge (by omega) (by omega))]
    simp only [L_get l ht, castO_s (hk t ht), putI_s (hk t ht), Option.bind_some, nI_1]
    obtain ⟨A, hA⟩ : ∃ A, A = setI T (pa t) 7 0 := ⟨_, rfl⟩
    rw [← hA]
    have wA : SW (fun z => ∃ i, i < np ∧ z = pa i) T A := by rw [hA]; exact SW_I _ _ ⟨t, ht, rfl⟩
    have lA : LI A (xb + 2) np pa := by
      have e1 : ∀ z, z ≠ pa t → mi A z = mi T z := fun z hz => by rw [hA]; funext y; rw [mi_setI_i, if_neg (fun c => hz c.1)]
      unfold LI
      rw [wA.kd, wA.ln, wA.mr, wA.emp, e1 (xb + 2) (by have := hb t ht; omega)]
      exact l
    obtain ⟨T', g1, g2, g3, g4⟩ := ih (t + 1) fu A (by omega) (by omega) (x.sw wA) lA (fun i hi => by rw [wA.kd]; exact hk i hi) hb
    refine ⟨T', g1, wA.tr g2, fun i k hi hk7 => ?_, fun i hi => ⟨fun h => ?_, fun h => ?_⟩⟩
    · rw [g3 i k hi hk7, hA, mi_setI_i, if_neg (fun c => hk7 c.2)]
    · by_cases e : i = t
      · rw [e]
        exact (g4 t ht).2 (by rw [hA, mi_setI_i, if_pos ⟨rfl, rfl⟩])
      · exact (g4 i hi).1 (by omega)
    · refine (g4 i hi).2 ?_
      rw [hA, mi_setI_i]
      by_cases c : pa i = pa t ∧ 7 = 7
      · rw [if_pos c]
      · rw [if_neg c]; exact h
theorem X_lin44 {xb np : Nat} {M : MI} {pa : Nat → Nat} {H : Nat → Bool} (hp : PAR M np) (hn : np ≤ 24) (hH : HL M np H) (inj : ∀ i j, i < np → j < np → pa i = pa j → i = j) (hb : ∀ i, i < np → xb + 82 ≤ pa i) : ∀ (t fu : Nat) (T : St), t ≤ np → t < fu → XOK T xb → LI T (xb + 2) np pa → (∀ i, i < np → kd T (pa i) = 9 ∧ mi T (pa i) 6 = M 9 i ∧ (M 8 i = -1 ∧ mr T (pa i) 4 = none ∨ ∃ j, j < i ∧ M 8 i = nI j ∧ mr T (pa i) 4 = some (pa j))) → (∀ q, q < np → mi T (pa q) 7 = nI (cntF (fun c => decide (M 8 c = nI q) && H c) t np)) → ∃ T', f_X11_countLines_44 fu T xb (nI t - 1) = some T' ∧ SW (fun z => ∃ i, i < np ∧ z = pa i) T T' ∧ (∀ i k, i < np → k ≠ 7 → mi T' (pa i) k = mi T (pa i) k) ∧ ∀ q, q < np → mi T' (pa q) 7 = nI (lcn M np H q) := by
  intro t
  induction t with
  | zero =>
    intro fu T h1 h2 x l hk hv
    obtain ⟨fu, rfl⟩ : ∃ k, fu = k + 1 := ⟨fu - 1, by omega⟩
    unfold f_X11_countLines_44
    rw [if_pos (by decide)]
    refine ⟨T, rfl, SW.rf _ _, fun _ _ _ _ => rfl, fun q hq => ?_⟩
    rw [hv q hq, cntF_0]
    rfl
  | succ t ih =>
    intro fu T h1 h2 x l hk hv
    obtain ⟨fu, rfl⟩ : ∃ k, fu = k + 1 := ⟨fu - 1, by omega⟩
    have ht : t < np := by omega
    obtain ⟨k9, e6, e8⟩ := hk t ht
    unfold f_X11_countLines_44 f_X11_countLines_92
    rw [nI_pred, if_neg (nI_pos (by omega))]
    simp only [xR_persons x, xV_persons x, L_size l, Option.bind_some]
    rw [if_neg (nI_ge ht (by omega))]
    simp only [L_get l ht, castO_s k9, rcv_s k9, getR_s k9, getI_s k9, X_lives k9, e6, Option.bind_some, i01]
    have hmm : ∀ z : Nat, nI z + (-1) = nI z - 1 := fun z => by rw [Int32.sub_eq_add_neg]
    rw [hmm]
    -- the lines of t are all told
    have hall : cntF (fun c => decide (M 8 c = nI t) && H c) (t + 1) np = lcn M np H t := by
      unfold lcn
      rw [← cntF_0]
      have : ∀ d, d ≤ t + 1 → cntF (fun c => decide (M 8 c = nI t) && H c) (t + 1) np = cntF (fun c => decide (M 8 c = nI t) && H c) (t + 1 - d) np := by
        intro d
        induction d with
        | zero => intro _; rfl
        | succ d ihd =>
          intro hd
          rw [ihd (by omega)]
          have hs := cntF_s (fun c => decide (M 8 c = nI t) && H c) (t := t + 1 - (d + 1)) (n := np) (by omega)
          have hno : ¬ (decide (M 8 (t + 1 - (d + 1)) = nI t) && H (t + 1 - (d + 1))) = true := by
            intro q
            rw [Bool.and_eq_true, decide_eq_true_eq] at q
            have := hp.lt hn (by omega) (by omega) q.1
            omega
          rw [hs, show t + 1 - (d + 1) + 1 = t + 1 - d by omega, if_neg hno]
          rfl
      rw [this (t + 1) (Nat.le_refl _), Nat.sub_self]
    have hHt : H t = true ↔ M 9 t = -1 ∨ 0 < lcn M np H t := by
      rw [hH t ht]
      unfold lcn
      rw [cntB_pos]
      constructor
      · rintro (e | ⟨c, c1, c2, c3⟩)
        · exact Or.inl e
        · exact Or.inr ⟨c, c1, by rw [Bool.and_eq_true, decide_eq_true_eq]; exact ⟨c2, c3⟩⟩
      · rintro (e | ⟨c, c1, c2⟩)
        · exact Or.inl e
        · rw [Bool.and_eq_true, decide_eq_true_eq] at c2
          exact Or.inr ⟨c, c1, c2⟩
    have hst : ∀ q, q < np → cntF (fun c => decide (M 8 c = nI q) && H c) t np = cntF (fun c => decide (M 8 c = nI q) && H c) (t + 1) np + (if decide (M 8 t = nI q) && H t then 1 else 0) := fun q _ => cntF_s _ ht
    have keep : (∀ q, q < np → ¬ (decide (M 8 t = nI q) && H t) = true) → ∃ T', f_X11_countLines_44 fu T xb (nI t - 1) = some T' ∧ SW (fun z => ∃ i, i < np ∧ z = pa i) T T' ∧ (∀ i k, i < np → k ≠ 7 → mi T' (pa i) k = mi T (pa i) k) ∧ ∀ q, q < np → mi T' (pa q) 7 = nI (lcn M np H q) := fun hno => by
      refine ih fu T (by omega) (by omega) x l hk (fun q hq => ?_)
      rw [hv q hq, hst q hq, if_neg (hno q hq)]
      rfl
    rcases e8 with ⟨z1, z2⟩ | ⟨j, j1, j2, j3⟩
    · rw [z2, if_pos rfl]
      refine keep (fun q hq => ?_)
      rw [z1]
      have : ¬ ((-1 : Int32) = nI q) := by rw [eq_i, nI_toInt (by omega)]; simp only [Int32.reduceToInt]; omega
      simp [this]
    · have hj : j < np := by omega
      have k9j := (hk j hj).1
      rw [j3, if_neg (by simp)]
      simp only [getI_s k9j, putI_s k9j, Option.bind_some]
      have hvt := hv t ht
      rw [hall] at hvt
      have hl24 : lcn M np H t ≤ np := cntB_le _ _
      have add : H t = true → ∃ T', f_X11_countLines_44 fu (setI T (pa j) 7 (mi T (pa j) 7 + 1)) xb (nI t - 1) = some T' ∧ SW (fun z => ∃ i, i < np ∧ z = pa i) T T' ∧ (∀ i k, i < np → k ≠ 7 → mi T' (pa i) k = mi T (pa i) k) ∧ ∀ q, q < np → mi T' (pa q) 7 = nI (lcn M np H q) := fun hT => by
        obtain ⟨A, hA⟩ : ∃ A, A = setI T (pa j) 7 (mi T (pa j) 7 + 1) := ⟨_, rfl⟩
        rw [← hA]
        have wA : SW (fun z => ∃ i, i < np ∧ z = pa i) T A := by rw [hA]; exact SW_I _ _ ⟨j, hj, rfl⟩
        have lA : LI A (xb + 2) np pa := by
          have e1 : ∀ z, z ≠ pa j → mi A z = mi T z := fun z hz => by rw [hA]; funext y; rw [mi_setI_i, if_neg (fun c => hz c.1)]
          unfold LI
          rw [wA.kd, wA.ln, wA.mr, wA.emp, e1 (xb + 2) (by have := hb j hj; omega)]
          exact l
        obtain ⟨T', g1, g2, g3, g4⟩ := ih fu A (by omega) (by omega) (x.sw wA) lA (fun i hi => by
          rw [wA.kd, wA.mr]
          refine ⟨(hk i hi).1, ?_, (hk i hi).2.2⟩
          rw [hA, mi_setI_i, if_neg (by omega)]
          exact (hk i hi).2.1) (fun q hq => by
          rw [hA, mi_setI_i, hst q hq]
          by_cases e : q = j
          · subst e
            rw [if_pos ⟨rfl, rfl⟩, if_pos (by simp [j2, hT]), hv q hq, nI_1]
          · have hno : ¬ (decide (M 8 t = nI q) && H t) = true := by
              rw [Bool.and_eq_true, decide_eq_true_eq, j2, nI_eq (by omega) (by omega)]
              exact fun c => e c.1.symm
            rw [if_neg (fun c => e (inj q j hq hj c.1)), if_neg hno, hv q hq]
            rfl)
        refine ⟨T', g1, wA.tr g2, fun i k hi hk7 => ?_, g4⟩
        rw [g3 i k hi hk7, hA, mi_setI_i, if_neg (fun c => hk7 c.2)]
      by_cases c1 : M 9 t = -1
      · rw [if_neg (fun q => q c1)]
        exact add (hHt.mpr (Or.inl c1))
      · rw [if_pos c1, hvt]
        by_cases c2 : 0 < lcn M np H t
        · rw [if_neg (nI_nle c2 (by omega))]
          exact add (hHt.mpr (Or.inr c2))
        · rw [if_pos (by rw [show lcn M np H t = 0 by omega]; decide)]
          refine keep (fun q hq => ?_)
          have : ¬ H t = true := fun z => by
            rcases hHt.mp z with z | z
            · exact c1 z
            · exact c2 z
          simp [this]
/-- the class counts the lines -/
theorem X_lines {T : St} {xb np : Nat} {M : MI} {pa : Nat → Nat} (x : XOK T xb) (cp : CP T xb M np pa) : ∃ T', f_X11_countLines T xb = some T' ∧ SW (fun z => ∃ i, i < np ∧ z = pa i) T T' ∧ (∀ i k, i < np → k ≠ 7 → mi T' (pa i) k = mi T (pa i) k) ∧ CN T' M np pa := by
  have n24 := cp.2.1
  have hb : ∀ i, i < np → xb + 82 ≤ pa i := fun i hi => (cp.2.2.2 i hi).2.1
  obtain ⟨A, a1, a2, a3, a4⟩ := X_lin2 np 0 FU T (by omega) (by unfold FU; omega) x cp.2.2.1 (fun i hi => (cp.2.2.2 i hi).1) hb
  rw [nI_0] at a1
  have xA := x.sw a2
  have lA : LI A (xb + 2) np pa := by
    unfold LI
    rw [a2.kd, a2.ln, a2.mr, a2.emp, (a2.2.2.2 (xb + 2) (fun ⟨i, hi, e⟩ => by have := hb i hi; omega)).1]
    exact cp.2.2.1
  obtain ⟨B, b1, b2, b3, b4⟩ := X_lin44 cp.par n24 (hlF_HL cp.par n24) (fun i j hi hj e => cp.inj hi hj e) hb np FU A (Nat.le_refl _) (by unfold FU; omega) xA lA (fun i hi => by
    have oi := cp.2.2.2 i hi
    rw [a2.kd, a2.mr, a3 i 6 hi (by decide)]
    exact ⟨oi.1, oi.2.2.2.2.2.2.2.1, oi.2.2.2.2.2.2.2.2.2.2.2⟩) (fun q hq => by
    rw [(a4 q hq).1 (by omega), cntF_n _ (Nat.le_refl _)]; rfl)
  refine ⟨B, ?_, a2.tr b2, fun i k hi hk => by rw [b3 i k hi hk, a3 i k hi hk], ⟨_, hlF_HL cp.par n24, b4⟩⟩
  unfold f_X11_countLines
  simp only [a1, Option.bind_some, xR_persons xA, xV_persons xA, L_size lA]
  exact b1
