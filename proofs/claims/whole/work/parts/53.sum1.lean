/-! SUMS: the two ways through the entries -/
theorem foldl_same {α β : Type} {f : β → α → β} {l : List α} (h : ∀ v x, x ∈ l → f v x = v) (v : β) : l.foldl f v = v := by
  induction l generalizing v with
  | nil => rfl
  | cons x l ih => rw [List.foldl_cons, h v x (by simp), ih (fun v y hy => h v y (by simp [hy]))]
theorem foldl_ext {α β : Type} {f g : β → α → β} {l : List α} (h : ∀ v x, x ∈ l → f v x = g v x) (v : β) : l.foldl f v = l.foldl g v := by
  induction l generalizing v with
  | nil => rfl
  | cons x l ih => rw [List.foldl_cons, List.foldl_cons, h v x (by simp), ih (fun v y hy => h v y (by simp [hy]))]
theorem sorted_eq : ∀ {l1 l2 : List Nat}, l1.Pairwise (· < ·) → l2.Pairwise (· < ·) → (∀ x, x ∈ l1 ↔ x ∈ l2) → l1 = l2
  | [], [], _, _, _ => rfl
  | [], y :: l2, _, _, h => by have := (h y).mpr (by simp); simp at this
  | x :: l1, [], _, _, h => by have := (h x).mp (by simp); simp at this
  | x :: l1, y :: l2, h1, h2, h => by
    rw [List.pairwise_cons] at h1 h2
    have hxy : x = y := by
      have a := (h x).mp (by simp)
      have b := (h y).mpr (by simp)
      rcases List.mem_cons.mp a with e | a
      · exact e
      · rcases List.mem_cons.mp b with e | b
        · exact e.symm
        · have := h2.1 x a
          have := h1.1 y b
          omega
    subst hxy
    rw [sorted_eq h1.2 h2.2 (fun z => ?_)]
    constructor
    · intro hz
      rcases List.mem_cons.mp ((h z).mp (by simp [hz])) with e | e
      · have := h1.1 z hz; omega
      · exact e
    · intro hz
      rcases List.mem_cons.mp ((h z).mpr (by simp [hz])) with e | e
      · have := h2.1 z hz; omega
      · exact e
/-- the first day's growths, then its acts, then the rest -/
theorem split_day {M : MI} {r : Int32} : ∀ {l : List Nat}, l.Pairwise (eLt M) → (∀ x, x ∈ l → r.toInt ≤ (M 16 x).toInt) → l = l.filter (fun x => decide (M 16 x = r) && decide (M 15 x = 6)) ++ (l.filter (fun x => decide (M 16 x = r) && decide (M 15 x ≠ 6)) ++ l.filter (fun x => decide (r.toInt < (M 16 x).toInt)))
  | [], _, _ => rfl
  | x :: l, h, hd => by
    rw [List.pairwise_cons] at h
    have ih := split_day h.2 (fun y hy => hd y (by simp [hy]))
    have hx := hd x (by simp)
    by_cases c1 : r.toInt < (M 16 x).toInt
    · have c2 : M 16 x ≠ r := fun e => by rw [e] at c1; omega
      have hl : ∀ y, y ∈ l → r.toInt < (M 16 y).toInt := fun y hy => by
        rcases h.1 y hy with q | ⟨q, -⟩
        · omega
        · rw [← q]; exact c1
      have f1 : l.filter (fun x => decide (M 16 x = r) && decide (M 15 x = 6)) = [] := by
        rw [List.filter_eq_nil_iff]
        intro y hy q
        rw [Bool.and_eq_true, decide_eq_true_eq] at q
        have := hl y hy
        rw [q.1] at this; omega
      have f2 : l.filter (fun x => decide (M 16 x = r) && decide (M 15 x ≠ 6)) = [] := by
        rw [List.filter_eq_nil_iff]
        intro y hy q
        rw [Bool.and_eq_true, decide_eq_true_eq] at q
        have := hl y hy
        rw [q.1] at this; omega
      rw [f1, f2, List.nil_append, List.nil_append] at ih
      rw [List.filter_cons, List.filter_cons, List.filter_cons, f1, f2, if_neg (by simp [c2]), if_neg (by simp [c2]), if_pos (by simpa using c1), ← ih]
      rfl
    · have c2 : M 16 x = r := by rw [eq_i]; omega
      by_cases c3 : M 15 x = 6
      · rw [List.filter_cons, List.filter_cons, List.filter_cons, if_pos (by simp [c2, c3]), if_neg (by simp [c3]), if_neg (by simpa using c1), List.cons_append, ← ih]
      · have f1 : l.filter (fun x => decide (M 16 x = r) && decide (M 15 x = 6)) = [] := by
          rw [List.filter_eq_nil_iff]
          intro y hy q
          rw [Bool.and_eq_true, decide_eq_true_eq, decide_eq_true_eq] at q
          rcases h.1 y hy with z | ⟨-, z | z⟩
          · rw [c2, q.1] at z; omega
          · exact c3 z.1
          · exact c3 (z.1.mpr q.2)
        rw [f1, List.nil_append] at ih
        rw [List.filter_cons, List.filter_cons, List.filter_cons, f1, if_neg (by simp [c3]), if_pos (by simp [c2, c3]), if_neg (by simpa using c1), List.nil_append, List.cons_append, ← ih]
theorem max0 (v : Int64) : (if (0 : Int64) < v then some v else some 0) = some (if v < 0 then 0 else v) := by
  simp only [Int64.lt_iff_toInt_lt]
  have z : (0 : Int64).toInt = 0 := rfl
  rw [z]
  by_cases c1 : 0 < v.toInt
  · rw [if_pos c1, if_neg (by omega)]
  · rw [if_neg c1]
    by_cases c2 : v.toInt < 0
    · rw [if_pos c2]
    · rw [if_neg c2]
      have : v.toInt = (0 : Int64).toInt := by rw [z]; omega
      rw [Int64.toInt_inj.mp this]
abbrev flt (M : MI) (D K : Int32) (x : Nat) : Bool := decide ((M 16 x).toInt ≤ D.toInt ∧ (M 19 x).toInt ≤ K.toInt)
/-- a sum by a list of entries -/
def asum (M : MI) (D K : Int32) (l : List Nat) (v : Int64) : Int64 := l.foldl (fun v x => if flt M D K x then chg M x v else v) v
theorem X_sum5 {S : St} {xb a l ne : Nat} {M : MI} {ea : Nat → Nat} {il : List Nat} (ha : kd S a = 1) (hr : mr S a 5 = some l) (hL : LI S l il.length (fun k => ea (il.getD k 0))) (he : ∀ x, x < ne → EO S xb M ea x) (hm : ∀ x, x ∈ il → x < ne) (D K : Int32) : ∀ (n t fu : Nat) (v : Int64), t + n = il.length → n < fu → f_X0_askedSum_5 fu S a D K v (nI t) = (let w := asum M D K (il.drop t) v; some (if w < 0 then 0 else w))
  | n, t, 0, v, _, h2 => by omega
  | 0, t, fu + 1, v, h1, _ => by
    have hb := hL.2.2.1
    unfold f_X0_askedSum_5 f_J9_max_f86c9
    simp only [getR_s ha, hr, Option.bind_some, rcv_s hL.1, L_size hL]
    rw [if_pos (nI_le (by omega) (by omega)), List.drop_eq_nil_of_le (by omega)]
    simp only [cmp_lt, max0, Option.bind_some]
    rfl
  | n + 1, t, fu + 1, v, h1, h2 => by
    have hb := hL.2.2.1
    have ht : t < il.length := by omega
    have hx : il.getD t 0 < ne := by rw [getD_get ht]; exact hm _ (List.getElem_mem ht)
    have ho := he _ hx
    unfold f_X0_askedSum_5
    simp only [getR_s ha, hr, Option.bind_some, rcv_s hL.1, L_size hL]
    rw [if_neg (nI_ge (by omega) (by omega))]
    simp only [L_get hL ht, castO_s ho.1, getI_s ho.1, rcv_s ho.1, X_changed ho, ho.2.2.1, ho.2.2.2.1, Option.bind_some, nI_1, lt_i]
    have hd : il.drop t = il.getD t 0 :: il.drop (t + 1) := by rw [getD_get ht, ← List.drop_eq_getElem_cons]
    have hs : ∀ w, asum M D K (il.drop t) w = asum M D K (il.drop (t + 1)) (if flt M D K (il.getD t 0) then chg M (il.getD t 0) w else w) := fun w => by
      unfold asum
      rw [hd, List.foldl_cons]
    rw [X_sum5 ha hr hL he hm D K n (t + 1) fu _ (by omega) (by omega), X_sum5 ha hr hL he hm D K n (t + 1) fu _ (by omega) (by omega), hs]
    by_cases c1 : D.toInt < (M 16 (il.getD t 0)).toInt
    · rw [if_pos c1, if_neg (show ¬ flt M D K (il.getD t 0) = true by simp only [decide_eq_true_eq]; omega)]
    · rw [if_neg c1]
      by_cases c2 : K.toInt < (M 19 (il.getD t 0)).toInt
      · rw [if_pos c2, if_neg (show ¬ flt M D K (il.getD t 0) = true by simp only [decide_eq_true_eq]; omega)]
      · rw [if_neg c2, if_pos (show flt M D K (il.getD t 0) = true by simp only [decide_eq_true_eq]; omega)]
