/-! READS: the class's words -/
def BTc (T : St) (xb : Nat) (tb : Nat → Nat) (n : Nat) : Prop := n ≤ 600 ∧ ∀ i, i < n → mi T (xb + 5) i = sb (tb i) ∧ tb i < 256
theorem lit_and : ∀ i, i < 15 → ∀ j, j < litLen i → litC i j &&& 255 = litC i j := by decide +kernel
def mat (tb : Nat → Nat) (p i : Nat) : Nat → Nat → Bool
  | 0, _ => true
  | m + 1, k => decide (litC i k = nI (tb (p + k))) && mat tb p i m (k + 1)
theorem mat_iff {tb : Nat → Nat} {p i : Nat} : ∀ m k, mat tb p i m k = true ↔ ∀ j, k ≤ j → j < k + m → litC i j = nI (tb (p + j)) := by
  intro m
  induction m with
  | zero => intro k; exact ⟨fun _ j h1 h2 => by omega, fun _ => rfl⟩
  | succ m ih =>
    intro k
    show (decide (litC i k = nI (tb (p + k))) && mat tb p i m (k + 1)) = true ↔ _
    rw [Bool.and_eq_true, decide_eq_true_eq, ih]
    constructor
    · intro z j h1 h2
      by_cases q : j = k
      · rw [q]; exact z.1
      · exact z.2 j (by omega) (by omega)
    · intro z
      exact ⟨z k (Nat.le_refl _) (by omega), fun j h1 h2 => z j (by omega) (by omega)⟩
section Words
variable {T : St} {xb n p e : Nat} {tb : Nat → Nat}
theorem X_byteAt (x : XOK T xb) (hB : BTc T xb tb n) {i : Nat} (hi : i < n) : f_X10_byteAt T (some (xb + 5)) (nI i) = some (sb (tb i)) := by
  have h6 := hB.1
  unfold f_X10_byteAt
  simp only [xZ_tape x, X_isWithin, i01, nI_toInt (show i < 2 ^ 31 by omega), Int32.reduceToInt, Option.bind_some, xL_tape x (show i < 600 by omega), (hB.2 i hi).1]
  rw [if_neg (by omega)]
theorem X_we12 (x : XOK T xb) (hB : BTc T xb tb n) (b : Bool) : ∀ (m i fu : Nat), i + m = n → m < fu → ∃ e, f_X10_wordEnd_12 fu T (some (xb + 5)) (nI n) (if b then 1 else 0) (nI i) = some (nI e) ∧ WE (if b then isL else isD) tb n i e := by
  have h6 := hB.1
  intro m
  induction m with
  | zero =>
    intro i fu e1 e2
    obtain ⟨fu, rfl⟩ : ∃ k, fu = k + 1 := ⟨fu - 1, by omega⟩
    unfold f_X10_wordEnd_12
    rw [if_pos (nI_le (by omega) (by omega))]
    exact ⟨i, rfl, Nat.le_refl _, by omega, fun j h1 h2 => by omega, fun h => by omega⟩
  | succ m ih =>
    intro i fu e1 e2
    obtain ⟨fu, rfl⟩ : ∃ k, fu = k + 1 := ⟨fu - 1, by omega⟩
    have hi : i < n := by omega
    have hk := (hB.2 i hi).2
    have cc := ch_k hk T
    obtain ⟨e, g1, g2, g3, g4, g5⟩ := ih (i + 1) fu (by omega) (by omega)
    have go : ∀ c, (if b then isL else isD) (tb i) = c → ∃ e', (if (if c then (1 : Int32) else 0) = 0 then some (nI i) else f_X10_wordEnd_12 fu T (some (xb + 5)) (nI n) (if b then 1 else 0) (nI (i + 1))) = some (nI e') ∧ WE (if b then isL else isD) tb n i e' := by
      intro c hc
      cases c with
      | true =>
        rw [if_pos rfl, if_neg (by decide)]
        refine ⟨e, g1, by omega, g3, fun j h1 h2 => ?_, g5⟩
        by_cases q : j = i
        · rw [q]; exact hc
        · exact g4 j (by omega) h2
      | false =>
        exact ⟨i, rfl, Nat.le_refl _, by omega, fun j h1 h2 => by omega, fun _ => hc⟩
    unfold f_X10_wordEnd_12
    rw [if_neg (nI_ge (by omega) (by omega))]
    cases b with
    | true =>
      rw [if_neg (by decide)]
      simp only [X_byteAt x hB hi, cc.1, Option.bind_some, nI_1]
      exact go (isL (tb i)) rfl
    | false =>
      rw [if_pos (by decide)]
      simp only [X_byteAt x hB hi, cc.2.1, Option.bind_some, nI_1]
      exact go (isD (tb i)) rfl
theorem X_wordEnd (x : XOK T xb) (hB : BTc T xb tb n) (hp : p < n) : ∃ e, f_X10_wordEnd T (some (xb + 5)) (nI p) (nI n) = some (nI e) ∧ WE (if isL (tb p) then isL else isD) tb n p e := by
  have cc := ch_k (hB.2 p hp).2 T
  have h6 := hB.1
  obtain ⟨e, g1, g2⟩ := X_we12 x hB (isL (tb p)) (n - p) p FU (by omega) (by unfold FU; omega)
  refine ⟨e, ?_, g2⟩
  unfold f_X10_wordEnd
  simp only [X_byteAt x hB hp, cc.1, Option.bind_some]
  exact g1
theorem lt_L (h0 : LT0 T) {i : Nat} (hi : i < 15) : stL0 T (lit T i) = some (nI (litLen i)) ∧ rcv T (some (lit T i)) 22 = some (lit T i) ∧ ∀ j, j < litLen i → stC0 T (lit T i) (nI j) = some (litC i j) := by
  obtain ⟨k1, k2, k3⟩ := h0.2 i hi
  have hl : litLen i < 100 := by
    have : ∀ i, i < 15 → litLen i < 100 := by decide
    exact this i hi
  refine ⟨?_, rcv_s k1, fun j hj => ?_⟩
  · unfold stL0
    rw [if_pos ⟨k1, by omega⟩, k2]
  · unfold stC0
    rw [nI_clamp (by omega), k3 j hj, if_pos ⟨k1, inB_nI (by omega) (by omega), by omega, lit_and i hi j hj⟩]
theorem X_sp15 (x : XOK T xb) (hB : BTc T xb tb n) (h0 : LT0 T) (hw : WE isL tb n p e) {i : Nat} (hi : i < 14) (hl : litLen i = e - p) : ∀ (m k fu : Nat), k + m = litLen i → m < fu → f_X10_isSpelled_15 fu T (some (lit T i)) (some (xb + 5)) (nI p) (nI k) = some (if mat tb p i m k then 1 else 0) := by
  have h6 := hB.1
  obtain ⟨w1, w2, w3, -⟩ := hw
  obtain ⟨q1, q2, q3⟩ := lt_L h0 (show i < 15 by omega)
  intro m
  induction m with
  | zero =>
    intro k fu e1 e2
    obtain ⟨fu, rfl⟩ : ∃ k, fu = k + 1 := ⟨fu - 1, by omega⟩
    unfold f_X10_isSpelled_15
    simp only [q1, q2, Option.bind_some]
    rw [if_pos (nI_le (by omega) (by omega))]
    rfl
  | succ m ih =>
    intro k fu e1 e2
    obtain ⟨fu, rfl⟩ : ∃ k, fu = k + 1 := ⟨fu - 1, by omega⟩
    have hk : p + k < n := by omega
    have cc := ch_k (hB.2 (p + k) hk).2 T
    have sbk : sb (tb (p + k)) = nI (tb (p + k)) := cc.2.2.2.2.2.2.2.2 (w3 (p + k) (by omega) (by omega))
    unfold f_X10_isSpelled_15
    simp only [q1, q2, Option.bind_some]
    rw [if_neg (nI_ge (by omega) (by omega))]
    simp only [q3 k (by omega), nI_add, X_byteAt x hB hk, sbk, Option.bind_some, nI_1, ih (k + 1) fu (by omega) (by omega)]
    show _ = some (if (decide (litC i k = nI (tb (p + k))) && mat tb p i m (k + 1)) = true then 1 else 0)
    by_cases c : litC i k = nI (tb (p + k))
    · rw [if_pos c, decide_eq_true c, Bool.true_and]
    · rw [if_neg c, decide_eq_false c, Bool.false_and]
      rfl
theorem X_isSp (x : XOK T xb) (hB : BTc T xb tb n) (h0 : LT0 T) (hw : WE isL tb n p e) {i : Nat} (hi : i < 14) : f_X10_isSpelled T (some (lit T i)) (some (xb + 5)) (nI p) (nI e) = some (if mw tb p e i then 1 else 0) := by
  have h6 := hB.1
  have hw' := hw
  obtain ⟨w1, w2, w3, -⟩ := hw'
  obtain ⟨q1, q2, q3⟩ := lt_L h0 (show i < 15 by omega)
  have hl : litLen i < 100 := by
    have : ∀ i, i < 15 → litLen i < 100 := by decide
    exact this i (by omega)
  unfold f_X10_isSpelled
  simp only [q1, q2, Option.bind_some]
  rw [pk_sub w1]
  have mwe : mw tb p e i = true ↔ litLen i = e - p ∧ ∀ j, 0 ≤ j → j < litLen i → litC i j = nI (tb (p + j)) := by
    unfold mw
    rw [Bool.and_eq_true, decide_eq_true_eq, List.all_eq_true]
    exact ⟨fun z => ⟨z.1, fun j _ hj => of_decide_eq_true (z.2 j (List.mem_range.mpr hj))⟩, fun z => ⟨z.1, fun j hj => decide_eq_true (z.2 j (Nat.zero_le _) (List.mem_range.mp hj))⟩⟩
  by_cases c : litLen i = e - p
  · rw [if_pos (by rw [c])]
    have g := X_sp15 x hB h0 hw hi c (litLen i) 0 FU (by omega) (by unfold FU; omega)
    rw [nI_0] at g
    rw [g]
    congr 1
    exact ifc ⟨fun z => mwe.mpr ⟨c, fun j h1 h2 => (mat_iff _ _).mp z j h1 (by omega)⟩, fun z => (mat_iff _ _).mpr (fun j h1 h2 => (mwe.mp z).2 j h1 (by omega))⟩
  · rw [if_neg (fun z => c ((nI_eq (by omega) (by omega)).mp z)), if_neg (fun z => c (mwe.mp z).1)]
theorem X_spell {i : Nat} (hi : i < 14) : f_X10_spelling T (nI (i + 3)) = some (some (lit T i)) := by
  have : i = 0 ∨ i = 1 ∨ i = 2 ∨ i = 3 ∨ i = 4 ∨ i = 5 ∨ i = 6 ∨ i = 7 ∨ i = 8 ∨ i = 9 ∨ i = 10 ∨ i = 11 ∨ i = 12 ∨ i = 13 := by omega
  rcases this with rfl | rfl | rfl | rfl | rfl | rfl | rfl | rfl | rfl | rfl | rfl | rfl | rfl | rfl <;> rfl
theorem X_kw2 (x : XOK T xb) (hB : BTc T xb tb n) (h0 : LT0 T) (hw : WE isL tb n p e) : ∀ (m i fu : Nat), i + m = 14 → m < fu → f_X10_keyword_2 fu T (some (xb + 5)) (nI p) (nI e) (nI (i + 3)) = some (nI (kwn tb p e m i)) := by
  intro m
  induction m with
  | zero =>
    intro i fu e1 e2
    obtain ⟨fu, rfl⟩ : ∃ k, fu = k + 1 := ⟨fu - 1, by omega⟩
    unfold f_X10_keyword_2
    rw [if_pos (by rw [lt_i, nI_toInt (by omega)]; simp only [Int32.reduceToInt]; omega)]
    rfl
  | succ m ih =>
    intro i fu e1 e2
    obtain ⟨fu, rfl⟩ : ∃ k, fu = k + 1 := ⟨fu - 1, by omega⟩
    have e3 : kwn tb p e (m + 1) i = if mw tb p e i then i + 3 else kwn tb p e m (i + 1) := rfl
    unfold f_X10_keyword_2
    rw [if_neg (by rw [lt_i, nI_toInt (by omega)]; simp only [Int32.reduceToInt]; omega)]
    simp only [X_spell (T := T) (show i < 14 by omega), X_isSp x hB h0 hw (show i < 14 by omega), Option.bind_some, nI_1]
    rw [e3]
    cases c : mw tb p e i with
    | true => rfl
    | false =>
      rw [if_neg (show ¬ (false = true) by decide), if_pos rfl, if_neg (show ¬ (false = true) by decide)]
      exact ih (i + 1) fu (by omega) (by omega)
theorem X_keyword (x : XOK T xb) (hB : BTc T xb tb n) (h0 : LT0 T) (hw : WE isL tb n p e) : f_X10_keyword T (some (xb + 5)) (nI p) (nI e) = some (nI (kw tb p e)) := X_kw2 x hB h0 hw 14 0 FU (by omega) (by unfold FU; omega)
end Words
