/-! LOOKS: the best choice within a purse -/
def KV (w : Nat → Int) (p : Nat → Nat) : List Nat → Nat → Nat → Int
  | [], _, _ => 0
  | x :: l, k, q => if 0 < k ∧ p x ≤ q then max (KV w p l k q) (w x + KV w p l (k - 1) (q - p x)) else KV w p l k q
section Kv
variable {w : Nat → Int} {p : Nat → Nat}
theorem KV_mono : ∀ (l : List Nat) (k k' q q' : Nat), k ≤ k' → q ≤ q' → KV w p l k q ≤ KV w p l k' q' := by
  intro l
  induction l with
  | nil => intro k k' q q' _ _; exact Int.le_refl _
  | cons x l ih =>
    intro k k' q q' h1 h2
    unfold KV
    have i1 := ih k k' q q' h1 h2
    by_cases c : 0 < k ∧ p x ≤ q
    · rw [if_pos c, if_pos (by omega)]
      have i2 := ih (k - 1) (k' - 1) (q - p x) (q' - p x) (by omega) (by omega)
      omega
    · rw [if_neg c]
      by_cases c' : 0 < k' ∧ p x ≤ q'
      · rw [if_pos c']; omega
      · rw [if_neg c']; exact i1
theorem KV_sk (x : Nat) (l : List Nat) (k q : Nat) : KV w p l k q ≤ KV w p (x :: l) k q := by
  show _ ≤ if 0 < k ∧ p x ≤ q then _ else _
  split <;> omega
theorem KV_tk {x k q : Nat} (l : List Nat) (h1 : 0 < k) (h2 : p x ≤ q) : w x + KV w p l (k - 1) (q - p x) ≤ KV w p (x :: l) k q := by
  show _ ≤ if 0 < k ∧ p x ≤ q then _ else _
  rw [if_pos ⟨h1, h2⟩]
  omega
theorem KV_app (l : List Nat) : ∀ (r : List Nat) (k q : Nat), KV w p l k q ≤ KV w p (r ++ l) k q := by
  intro r
  induction r with
  | nil => intro k q; exact Int.le_refl _
  | cons x r ih => intro k q; exact Int.le_trans (ih k q) (KV_sk x (r ++ l) k q)
theorem KV_0 : ∀ (l : List Nat) (q : Nat), KV w p l 0 q = 0 := by
  intro l
  induction l with
  | nil => intro q; rfl
  | cons x l ih =>
    intro q
    unfold KV
    rw [if_neg (by omega)]
    exact ih q
theorem KV_nn : ∀ (l : List Nat) (k q : Nat), 0 ≤ KV w p l k q := by
  intro l
  induction l with
  | nil => intro k q; exact Int.le_refl _
  | cons x l ih => intro k q; exact Int.le_trans (ih k q) (KV_sk x l k q)
theorem KV_neg {x : Nat} (h : w x ≤ 0) (l : List Nat) (k q : Nat) : KV w p (x :: l) k q = KV w p l k q := by
  show (if 0 < k ∧ p x ≤ q then _ else _) = _
  split
  · have := KV_mono (w := w) (p := p) l (k - 1) k (q - p x) q (by omega) (by omega)
    omega
  · rfl
theorem KV_swap (x y : Nat) (l : List Nat) (k q : Nat) : KV w p (x :: y :: l) k q = KV w p (y :: x :: l) k q := by
  unfold KV
  unfold KV
  rw [show q - p x - p y = q - p y - p x by omega, show k - 1 - 1 = k - 1 - 1 from rfl]
  repeat' split
  all_goals omega
theorem KV_perm {l l' : List Nat} (h : l.Perm l') : ∀ (k q : Nat), KV w p l k q = KV w p l' k q := by
  induction h with
  | nil => intro k q; rfl
  | cons x _ ih =>
    intro k q
    unfold KV
    rw [ih, ih]
  | swap x y l => intro k q; exact KV_swap y x l k q
  | trans _ _ i1 i2 => intro k q; rw [i1, i2]
/-- one of a run that comes first is no worse than the later ones -/
theorem KV_dom {x : Nat} : ∀ (R A : List Nat) (k q : Nat), (∀ y ∈ R, p x ≤ p y ∧ w y ≤ w x) → KV w p (R ++ A) k q ≤ if 0 < k ∧ p x ≤ q then max (KV w p A k q) (w x + KV w p (R ++ A) (k - 1) (q - p x)) else KV w p A k q := by
  intro R
  induction R with
  | nil =>
    intro A k q _
    show KV w p A k q ≤ _
    split <;> omega
  | cons y R ih =>
    intro A k q h
    have hy := h y List.mem_cons_self
    have i1 := ih A k q (fun z hz => h z (List.mem_cons_of_mem _ hz))
    have e : KV w p (y :: R ++ A) k q = if 0 < k ∧ p y ≤ q then max (KV w p (R ++ A) k q) (w y + KV w p (R ++ A) (k - 1) (q - p y)) else KV w p (R ++ A) k q := rfl
    rw [e]
    by_cases c : 0 < k ∧ p x ≤ q
    · rw [if_pos c] at i1 ⊢
      have s1 := KV_sk (w := w) (p := p) y (R ++ A) (k - 1) (q - p x)
      have s1' : KV w p (R ++ A) (k - 1) (q - p x) ≤ KV w p (y :: R ++ A) (k - 1) (q - p x) := s1
      by_cases d : 0 < k ∧ p y ≤ q
      · rw [if_pos d]
        have m := KV_mono (w := w) (p := p) (R ++ A) (k - 1) (k - 1) (q - p y) (q - p x) (by omega) (by omega)
        omega
      · rw [if_neg d]; omega
    · rw [if_neg c] at i1 ⊢
      rw [if_neg (by omega)]
      exact i1
/-- what the class searches -/
theorem KV_run {x k q : Nat} (R A : List Nat) (h : ∀ y ∈ R, p x ≤ p y ∧ w y ≤ w x) (hk : 0 < k) : KV w p (x :: (R ++ A)) k q = if p x ≤ q then max (w x + KV w p (R ++ A) (k - 1) (q - p x)) (KV w p A k q) else KV w p A k q := by
  have d := KV_dom R A k q h
  have a := KV_app (w := w) (p := p) A R k q
  show (if 0 < k ∧ p x ≤ q then _ else _) = _
  by_cases c : p x ≤ q
  · rw [if_pos ⟨hk, c⟩, if_pos c]
    rw [if_pos ⟨hk, c⟩] at d
    omega
  · rw [if_neg (by omega), if_neg c]
    rw [if_neg (by omega)] at d
    omega
/-- what is chosen -/
def cst (p : Nat → Nat) : List Nat → Nat
  | [] => 0
  | x :: l => p x + cst p l
def wth (w : Nat → Int) : List Nat → Int
  | [] => 0
  | x :: l => w x + wth w l
theorem KV_ge : ∀ {l A : List Nat}, A.Sublist l → ∀ (k q : Nat), A.length ≤ k → cst p A ≤ q → wth w A ≤ KV w p l k q := by
  intro l A h
  induction h with
  | slnil => intro k q _ _; exact Int.le_refl _
  | cons x _ ih => intro k q h1 h2; exact Int.le_trans (ih k q h1 h2) (KV_sk x _ k q)
  | cons_cons x _ ih =>
    intro k q h1 h2
    rw [List.length_cons] at h1
    have h2' : p x + cst p _ ≤ q := h2
    refine Int.le_trans ?_ (KV_tk (x := x) _ (by omega) (by omega))
    have i := ih (k - 1) (q - p x) (by omega) (by omega)
    show w x + wth w _ ≤ _
    omega
theorem KV_at : ∀ (l : List Nat) (k q : Nat), ∃ A, A.Sublist l ∧ A.length ≤ k ∧ cst p A ≤ q ∧ wth w A = KV w p l k q := by
  intro l
  induction l with
  | nil => intro k q; exact ⟨[], List.Sublist.slnil, Nat.zero_le _, Nat.zero_le _, rfl⟩
  | cons x l ih =>
    intro k q
    obtain ⟨A, a1, a2, a3, a4⟩ := ih k q
    by_cases c : 0 < k ∧ p x ≤ q
    · obtain ⟨B, b1, b2, b3, b4⟩ := ih (k - 1) (q - p x)
      by_cases d : KV w p l k q ≤ w x + KV w p l (k - 1) (q - p x)
      · refine ⟨x :: B, b1.cons_cons x, by rw [List.length_cons]; omega, by show p x + cst p B ≤ q; omega, ?_⟩
        show w x + wth w B = if 0 < k ∧ p x ≤ q then _ else _
        rw [if_pos c, b4]; omega
      · refine ⟨A, a1.cons x, a2, a3, ?_⟩
        show wth w A = if 0 < k ∧ p x ≤ q then _ else _
        rw [if_pos c, a4]; omega
    · refine ⟨A, a1.cons x, a2, a3, ?_⟩
      show wth w A = if 0 < k ∧ p x ≤ q then _ else _
      rw [if_neg c, a4]
end Kv
