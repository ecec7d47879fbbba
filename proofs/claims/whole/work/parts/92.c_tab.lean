/-! JOININGS: sets as numbers, tried through -/
def bits (s : Nat) : List Nat := (List.range 8).filter (fun i => s.testBit i)
def mk_ : List Nat → Nat
  | [] => 0
  | a :: l => 2 ^ a + mk_ l
def chnB (o : Int32) : List Int32 → Bool
  | [] => false
  | [x] => decide (x = 0)
  | x :: y :: l => decide (¬ x = 0) && decide (¬ x < 0) && decide ((x - 1) &&& o = y) && chnB o (y :: l)
def tab1 (s : Nat) : Bool := (List.range 8).all (fun i => decide (((nI s >>> (nI i &&& 31)) &&& 1) = if s.testBit i then 1 else 0))
def tab2 (s : Nat) : Bool := match bits s with
  | [] => decide (s = 0)
  | f :: R => decide (f < 8) && decide (nI s &&& -(nI s) = nI (2 ^ f)) && decide (nI s ^^^ nI (2 ^ f) = nI (mk_ R)) && chnB (nI (mk_ R)) ((subs R).map (fun p => nI (mk_ p.1))) && decide ((nI s &&& (nI s - 1)) &&& 255 = nI (mk_ R)) && decide (bits (mk_ R) = R) && decide (mk_ R < s) && (subs R).all (fun p => decide ((nI (2 ^ f) ||| nI (mk_ p.1)) &&& 255 = nI (mk_ (f :: p.1))) && decide ((nI s &&& (nI (mk_ (f :: p.1)) ^^^ (-1))) &&& 255 = nI (mk_ p.2)) && decide (bits (mk_ (f :: p.1)) = f :: p.1) && decide (bits (mk_ p.2) = p.2) && decide (mk_ (f :: p.1) ≤ s) && decide (mk_ p.2 < s))
def tab4 (n : Nat) : Bool := decide (((1 <<< (nI n &&& 31)) - 1) &&& 255 = nI (2 ^ n - 1)) && decide (bits (2 ^ n - 1) = List.range n) && decide ((subs (List.range n)).map (fun p => mk_ p.1) = (List.range (2 ^ n)).reverse) && (subs (List.range n)).all (fun p => decide (nI (2 ^ n - 1) ^^^ nI (mk_ p.1) = nI (mk_ p.2)) && decide (bits (mk_ p.1) = p.1) && decide (bits (mk_ p.2) = p.2) && decide (mk_ p.2 < 2 ^ n))
theorem tab1_ok : (List.range 256).all tab1 = true := by decide +kernel
theorem tab2_ok : (List.range 256).all tab2 = true := by decide +kernel
theorem tab4_ok : (List.range 9).all tab4 = true := by decide +kernel
theorem bits_test {s i : Nat} (hs : s < 256) (hi : i < 8) : ((nI s >>> (nI i &&& 31)) &&& 1) = if i ∈ bits s then 1 else 0 := by
  have h := List.all_eq_true.mp (List.all_eq_true.mp tab1_ok s (List.mem_range.mpr hs)) i (List.mem_range.mpr hi)
  rw [of_decide_eq_true h]
  unfold bits
  by_cases c : s.testBit i = true
  · rw [if_pos c, if_pos (by rw [List.mem_filter, List.mem_range]; exact ⟨hi, c⟩)]
  · rw [if_neg c, if_neg (by rw [List.mem_filter]; exact fun z => c z.2)]
theorem bits_lt {s i : Nat} (h : i ∈ bits s) : i < 8 := by
  unfold bits at h
  rw [List.mem_filter, List.mem_range] at h
  exact h.1
theorem bits_nd (s : Nat) : (bits s).Nodup := List.Pairwise.filter _ List.nodup_range
theorem bits_len (s : Nat) : (bits s).length ≤ 8 := by
  unfold bits
  have := List.length_filter_le (fun i => s.testBit i) (List.range 8)
  rw [List.length_range] at this
  exact this
