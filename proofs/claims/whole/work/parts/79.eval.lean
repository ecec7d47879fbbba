/-! A LAW'S PROOF LINES: what a list of steps comes to -/
/-- two into one -/
def bo (k : Nat) (a c : Int32) : Int32 := if k = 5 then a + c else if k = 6 then a - c else if k = 7 then a * c else if k = 9 then (if c ≤ a then 0 else 1) else if k = 10 then (if a = c then 1 else 0) else if k = 11 then (if a ≤ c then 0 else 1) else if k = 13 then a &&& c else a ||| c
/-- the pile after a step: the top comes first -/
def ev1 (V : Nat → Int32) (q : Sps) (l : List Int32) : List Int32 :=
  if q.1 = 0 then q.2 :: l else if q.1 < 5 then V q.1 :: l else if q.1 = 8 then (match l with
    | a :: u => a / q.2 :: u
    | [] => []) else if q.1 = 12 then (match l with
    | a :: u => (1 - a) :: u
    | [] => []) else (match l with
    | c :: a :: u => bo q.1 a c :: u
    | r => r)
def evs (V : Nat → Int32) : List Sps → List Int32 → List Int32
  | [], l => l
  | q :: r, l => evs V r (ev1 V q l)
/-- a pile of these sorts: a test is 0 or 1 -/
def VT : List Bool → List Int32 → Prop
  | [], [] => True
  | s :: t, v :: l => (s = true → v = 0 ∨ v = 1) ∧ VT t l
  | _, _ => False
theorem VT.len : ∀ {t : List Bool} {l : List Int32}, VT t l → l.length = t.length
  | [], [], _ => rfl
  | _ :: t, _ :: l, h => by
    have := VT.len h.2
    simp only [List.length_cons, this]
theorem ty1_c {d : Nat} {q : Sps} {t t' : List Bool} (h : ty1 d q t = some t') : (q.1 = 0 ∧ t.length < d ∧ 0 ≤ q.2 ∧ t' = false :: t) ∨ ((1 ≤ q.1 ∧ q.1 ≤ 4) ∧ t.length < d ∧ t' = false :: t) ∨ ((5 ≤ q.1 ∧ q.1 ≤ 7) ∧ ∃ u, t = false :: false :: u ∧ t' = false :: u) ∨ (q.1 = 8 ∧ ∃ u, t = false :: u ∧ u.length + 1 < d ∧ 0 < q.2 ∧ t' = false :: u) ∨ ((9 ≤ q.1 ∧ q.1 ≤ 11) ∧ ∃ u, t = false :: false :: u ∧ t' = true :: u) ∨ (q.1 = 12 ∧ ∃ u, t = true :: u ∧ t' = true :: u) ∨ ((13 ≤ q.1 ∧ q.1 ≤ 14) ∧ ∃ u, t = true :: true :: u ∧ t' = true :: u) := by
  obtain ⟨k, v⟩ := q
  unfold ty1 at h
  split at h
  case h_1 => rename_i e; simp only at e; split at h <;> simp_all
  case h_2 => rename_i e; simp only at e; split at h <;> simp_all
  case h_3 => rename_i e; simp only at e; split at h <;> simp_all
  case h_4 => rename_i e; simp only at e; split at h <;> simp_all
  case h_5 => rename_i e; simp only at e; split at h <;> simp_all
  case h_6 => rename_i u e; cases h; exact Or.inr (Or.inr (Or.inl ⟨by simp only at e; simp only; omega, u, rfl, rfl⟩))
  case h_7 => rename_i u e; cases h; exact Or.inr (Or.inr (Or.inl ⟨by simp only at e; simp only; omega, u, rfl, rfl⟩))
  case h_8 => rename_i u e; cases h; exact Or.inr (Or.inr (Or.inl ⟨by simp only at e; simp only; omega, u, rfl, rfl⟩))
  case h_9 =>
    rename_i u e
    split at h
    · rename_i hd
      cases h
      exact Or.inr (Or.inr (Or.inr (Or.inl ⟨e, u, rfl, hd.1, hd.2, rfl⟩)))
    · cases h
  case h_10 => rename_i u e; cases h; exact Or.inr (Or.inr (Or.inr (Or.inr (Or.inl ⟨by simp only at e; simp only; omega, u, rfl, rfl⟩))))
  case h_11 => rename_i u e; cases h; exact Or.inr (Or.inr (Or.inr (Or.inr (Or.inl ⟨by simp only at e; simp only; omega, u, rfl, rfl⟩))))
  case h_12 => rename_i u e; cases h; exact Or.inr (Or.inr (Or.inr (Or.inr (Or.inl ⟨by simp only at e; simp only; omega, u, rfl, rfl⟩))))
  case h_13 => rename_i u e; cases h; exact Or.inr (Or.inr (Or.inr (Or.inr (Or.inr (Or.inl ⟨e, u, rfl, rfl⟩)))))
  case h_14 => rename_i u e; cases h; exact Or.inr (Or.inr (Or.inr (Or.inr (Or.inr (Or.inr ⟨by simp only at e; simp only; omega, u, rfl, rfl⟩)))))
  case h_15 => rename_i u e; cases h; exact Or.inr (Or.inr (Or.inr (Or.inr (Or.inr (Or.inr ⟨by simp only at e; simp only; omega, u, rfl, rfl⟩)))))
  case h_16 => exact absurd h (by simp)
theorem and01 {a c : Int32} (h1 : a = 0 ∨ a = 1) (h2 : c = 0 ∨ c = 1) : a &&& c = 0 ∨ a &&& c = 1 := by
  rcases h1 with rfl | rfl <;> rcases h2 with rfl | rfl <;> decide
theorem or01 {a c : Int32} (h1 : a = 0 ∨ a = 1) (h2 : c = 0 ∨ c = 1) : a ||| c = 0 ∨ a ||| c = 1 := by
  rcases h1 with rfl | rfl <;> rcases h2 with rfl | rfl <;> decide
theorem if01 {P : Prop} [Decidable P] : ((if P then (0 : Int32) else 1) = 0 ∨ (if P then (0 : Int32) else 1) = 1) := by
  split
  · exact Or.inl rfl
  · exact Or.inr rfl
theorem if10 {P : Prop} [Decidable P] : ((if P then (1 : Int32) else 0) = 0 ∨ (if P then (1 : Int32) else 0) = 1) := by
  split
  · exact Or.inr rfl
  · exact Or.inl rfl
theorem ev1_vt {d : Nat} {V : Nat → Int32} {q : Sps} {t t' : List Bool} {l : List Int32} (h : ty1 d q t = some t') (v : VT t l) : VT t' (ev1 V q l) := by
  unfold ev1
  rcases ty1_c h with ⟨e, -, -, rfl⟩ | ⟨e, -, rfl⟩ | ⟨e, u, rfl, rfl⟩ | ⟨e, u, rfl, -, -, rfl⟩ | ⟨e, u, rfl, rfl⟩ | ⟨e, u, rfl, rfl⟩ | ⟨e, u, rfl, rfl⟩
  · rw [if_pos e]
    exact ⟨fun z => (by cases z), v⟩
  · rw [if_neg (by omega), if_pos (by omega)]
    exact ⟨fun z => (by cases z), v⟩
  · rw [if_neg (by omega), if_neg (by omega), if_neg (by omega), if_neg (by omega)]
    match l, v with
    | c :: a :: r, w => exact ⟨fun z => (by cases z), w.2.2⟩
  · rw [if_neg (by omega), if_neg (by omega), if_pos e]
    match l, v with
    | c :: r, w => exact ⟨fun z => (by cases z), w.2⟩
  · rw [if_neg (by omega), if_neg (by omega), if_neg (by omega), if_neg (by omega)]
    match l, v with
    | c :: a :: r, w =>
      refine ⟨fun _ => ?_, w.2.2⟩
      unfold bo
      rw [if_neg (by omega), if_neg (by omega), if_neg (by omega)]
      by_cases e9 : q.1 = 9
      · rw [if_pos e9]; exact if01
      · rw [if_neg e9]
        by_cases e10 : q.1 = 10
        · rw [if_pos e10]; exact if10
        · rw [if_neg e10, if_pos (by omega)]; exact if01
  · rw [if_neg (by omega), if_neg (by omega), if_neg (by omega), if_pos e]
    match l, v with
    | c :: r, w =>
      refine ⟨fun _ => ?_, w.2⟩
      rcases w.1 rfl with rfl | rfl <;> decide
  · rw [if_neg (by omega), if_neg (by omega), if_neg (by omega), if_neg (by omega)]
    match l, v with
    | c :: a :: r, w =>
      refine ⟨fun _ => ?_, w.2.2⟩
      unfold bo
      rw [if_neg (by omega), if_neg (by omega), if_neg (by omega), if_neg (by omega), if_neg (by omega), if_neg (by omega)]
      by_cases e13 : q.1 = 13
      · rw [if_pos e13]; exact and01 (w.2.1 rfl) (w.1 rfl)
      · rw [if_neg e13]; exact or01 (w.2.1 rfl) (w.1 rfl)
theorem evs_vt {d : Nat} {V : Nat → Int32} : ∀ {r : List Sps} {t t' : List Bool} {l : List Int32}, tyD d r t = some t' → VT t l → VT t' (evs V r l)
  | [], t, t', l, h, v => by
    cases h
    exact v
  | q :: r, t, t', l, h, v => by
    unfold tyD at h
    obtain ⟨t1, h1, h2⟩ := Option.bind_eq_some_iff.mp h
    show VT t' (evs V r (ev1 V q l))
    exact evs_vt h2 (ev1_vt h1 v)
/-- a row that holds a pile -/
def SK (f : Nat → Int32) : List Int32 → Prop
  | [] => True
  | v :: l => f l.length = v ∧ SK f l
theorem SK.eq {f g : Nat → Int32} : ∀ {l : List Int32}, SK f l → (∀ i, i < l.length → g i = f i) → SK g l
  | [], _, _ => trivial
  | _ :: l, h, e => ⟨(e _ (by simp)).trans h.1, h.2.eq (fun i hi => e i (by simp only [List.length_cons]; omega))⟩
