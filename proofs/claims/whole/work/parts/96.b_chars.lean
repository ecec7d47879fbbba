/-! READS: characters -/
def isL (k : Nat) : Bool := decide (97 ≤ k ∧ k ≤ 122 ∨ 65 ≤ k ∧ k ≤ 90)
def isD (k : Nat) : Bool := decide (48 ≤ k ∧ k ≤ 57)
def isB (k : Nat) : Bool := decide (k = 32 ∨ k = 10)
def sgn (k : Nat) : Nat := if k = 40 then 22 else if k = 41 then 23 else if k = 42 then 20 else if k = 43 then 18 else if k = 45 then 19 else if k = 47 then 21 else if k = 59 then 17 else if k = 60 then 24 else if k = 61 then 25 else if k = 62 then 26 else 1
def sb (k : Nat) : Int32 := (nI k).toInt8.toInt32
theorem ch_ok : (List.range 256).all (fun k => decide (f_X10_isLetter default (sb k) = some (if isL k then 1 else 0)) && decide (f_X10_isDigit default (sb k) = some (if isD k then 1 else 0)) && decide (f_X10_isBlank default (sb k) = some (if isB k then 1 else 0)) && decide (f_X10_signOf default (sb k) = some (nI (sgn k))) && decide (f_X12_isLetter default (nI k) = some (if isL k then 1 else 0)) && decide (f_X12_isDigit default (nI k) = some (if isD k then 1 else 0)) && decide ((nI k = 32 ∨ nI k = 10) ↔ isB k = true) && decide (isD k = true → sb k = nI k) && decide (isL k = true → sb k = nI k)) = true := by decide +kernel
theorem ch_k {k : Nat} (hk : k < 256) (S : St) : f_X10_isLetter S (sb k) = some (if isL k then 1 else 0) ∧ f_X10_isDigit S (sb k) = some (if isD k then 1 else 0) ∧ f_X10_isBlank S (sb k) = some (if isB k then 1 else 0) ∧ f_X10_signOf S (sb k) = some (nI (sgn k)) ∧ f_X12_isLetter S (nI k) = some (if isL k then 1 else 0) ∧ f_X12_isDigit S (nI k) = some (if isD k then 1 else 0) ∧ ((nI k = 32 ∨ nI k = 10) ↔ isB k = true) ∧ (isD k = true → sb k = nI k) ∧ (isL k = true → sb k = nI k) := by
  have h := List.all_eq_true.mp ch_ok k (List.mem_range.mpr hk)
  simp only [Bool.and_eq_true, decide_eq_true_eq] at h
  obtain ⟨⟨⟨⟨⟨⟨⟨⟨h1, h2⟩, h3⟩, h4⟩, h5⟩, h6⟩, h7⟩, h8⟩, h9⟩ := h
  exact ⟨h1, h2, h3, h4, h5, h6, h7, h8, h9⟩
theorem ch_end (S : St) : f_X12_isLetter S (-1) = some 0 ∧ f_X12_isDigit S (-1) = some 0 := ⟨rfl, rfl⟩
/-- where those that are P end -/
def WE (P : Nat → Bool) (tb : Nat → Nat) (n i e : Nat) : Prop := i ≤ e ∧ e ≤ n ∧ (∀ j, i ≤ j → j < e → P (tb j) = true) ∧ (e < n → P (tb e) = false)
theorem WE_un {P : Nat → Bool} {tb : Nat → Nat} {n i e e' : Nat} (h : WE P tb n i e) (h' : WE P tb n i e') : e = e' := by
  obtain ⟨a1, a2, a3, a4⟩ := h
  obtain ⟨b1, b2, b3, b4⟩ := h'
  rcases Nat.lt_trichotomy e e' with c | c | c
  · have := a4 (by omega)
    rw [b3 e a1 c] at this
    cases this
  · exact c
  · have := b4 (by omega)
    rw [a3 e' b1 c] at this
    cases this
/-- a word is the i-th one -/
def mw (tb : Nat → Nat) (p e i : Nat) : Bool := decide (litLen i = e - p) && (List.range (litLen i)).all (fun j => decide (litC i j = nI (tb (p + j))))
def kwn (tb : Nat → Nat) (p e : Nat) : Nat → Nat → Nat
  | 0, _ => 1
  | m + 1, i => if mw tb p e i then i + 3 else kwn tb p e m (i + 1)
def kw (tb : Nat → Nat) (p e : Nat) : Nat := kwn tb p e 14 0
theorem lit_dif : ∀ i, i < 14 → ∀ j, j < 14 → litLen i = litLen j → (∀ k, k < litLen i → litC i k = litC j k) → i = j := by decide +kernel
theorem mw_un {tb : Nat → Nat} {p e i j : Nat} (hi : i < 14) (hj : j < 14) (h1 : mw tb p e i = true) (h2 : mw tb p e j = true) : i = j := by
  unfold mw at h1 h2
  rw [Bool.and_eq_true, decide_eq_true_eq, List.all_eq_true] at h1 h2
  refine lit_dif i hi j hj (by omega) (fun k hk => ?_)
  have a := of_decide_eq_true (h1.2 k (List.mem_range.mpr hk))
  have b := of_decide_eq_true (h2.2 k (List.mem_range.mpr (by omega)))
  rw [a, b]
theorem kwn_is {tb : Nat → Nat} {p e : Nat} : ∀ (m i : Nat), i + m = 14 → (∃ j, i ≤ j ∧ j < 14 ∧ mw tb p e j = true ∧ kwn tb p e m i = j + 3) ∨ ((∀ j, i ≤ j → j < 14 → mw tb p e j = false) ∧ kwn tb p e m i = 1) := by
  intro m
  induction m with
  | zero => intro i h; exact Or.inr ⟨fun j h1 h2 => by omega, rfl⟩
  | succ m ih =>
    intro i h
    have e1 : kwn tb p e (m + 1) i = if mw tb p e i then i + 3 else kwn tb p e m (i + 1) := rfl
    cases c : mw tb p e i with
    | true => exact Or.inl ⟨i, Nat.le_refl _, by omega, c, by rw [e1, c]; rfl⟩
    | false =>
      rw [e1, c]
      rcases ih (i + 1) (by omega) with ⟨j, a1, a2, a3, a4⟩ | ⟨a1, a2⟩
      · exact Or.inl ⟨j, by omega, a2, a3, a4⟩
      · refine Or.inr ⟨fun j h1 h2 => ?_, a2⟩
        by_cases q : j = i
        · rw [q]; exact c
        · exact a1 j (by omega) h2
/-- a number's value -/
def nv (tb : Nat → Nat) (p : Nat) : Nat → Nat
  | 0 => 0
  | m + 1 => 10 * nv tb p m + (tb (p + m) - 48)
/-- the next token from i on -/
def TOK (tb : Nat → Nat) (n i s p v e : Nat) : Prop := WE isB tb n i p ∧ (p = n ∧ s = 0 ∧ v = 0 ∧ e = n ∨ p < n ∧ isL (tb p) = true ∧ WE isL tb n p e ∧ s = kw tb p e ∧ v = 0 ∨ p < n ∧ isL (tb p) = false ∧ isD (tb p) = true ∧ WE isD tb n p e ∧ (e - p ≤ 5 ∧ s = 2 ∧ v = nv tb p (e - p) ∨ 5 < e - p ∧ s = 1 ∧ v = 0) ∨ p < n ∧ isL (tb p) = false ∧ isD (tb p) = false ∧ s = sgn (tb p) ∧ v = 0 ∧ e = p + 1)
abbrev Tk : Type := Nat × Nat × Nat × Nat
/-- all tokens from i on, the end too -/
def TKS (tb : Nat → Nat) (n : Nat) : Nat → List Tk → Prop
  | _, [] => False
  | i, t :: ts => TOK tb n i t.1 t.2.1 t.2.2.1 t.2.2.2 ∧ (t.1 = 0 ∧ ts = [] ∨ t.1 ≠ 0 ∧ TKS tb n t.2.2.2 ts)
theorem TOK.bl {tb : Nat → Nat} {n i s p v e : Nat} (h : TOK tb n (i + 1) s p v e) (hb : isB (tb i) = true) : TOK tb n i s p v e := by
  obtain ⟨⟨a1, a2, a3, a4⟩, h2⟩ := h
  refine ⟨⟨by omega, a2, fun j h1 h3 => ?_, a4⟩, h2⟩
  by_cases q : j = i
  · rw [q]; exact hb
  · exact a3 j (by omega) h3
