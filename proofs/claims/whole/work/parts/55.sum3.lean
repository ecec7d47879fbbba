/-! SUMS: both ways are one -/
abbrev rfp (M : MI) (K d : Int32) (x : Nat) : Bool := decide ((M 19 x).toInt ≤ K.toInt) && decide (d.toInt ≤ (M 16 x).toInt)
theorem day_list {M : MI} {ne a : Nat} {l : List Nat} {K d r : Int32} (hE : EL M ne a l) (hdr : d.toInt ≤ r.toInt) (b : Bool) : (List.range ne).filter (fun x => decide (M 14 x = nI a) && (decide (M 16 x = r) && (decide ((M 19 x).toInt ≤ K.toInt) && (decide (M 15 x = 6) == b)))) = (l.filter (rfp M K d)).filter (fun x => decide (M 16 x = r) && (decide (M 15 x = 6) == b)) := by
  apply sorted_eq
  · exact List.Pairwise.filter _ List.pairwise_lt_range
  · rw [List.filter_filter]
    have h1 := hE.2.filter (fun x => decide (M 16 x = r) && (decide (M 15 x = 6) == b) && rfp M K d x)
    refine h1.imp_of_mem (fun hx hy q => ?_)
    rw [List.mem_filter] at hx hy
    have px := hx.2
    have py := hy.2
    simp only [Bool.and_eq_true, decide_eq_true_eq, beq_iff_eq] at px py
    have ex : M 16 _ = r := px.1.1
    have ey : M 16 _ = r := py.1.1
    rcases q with q | ⟨-, q | q⟩
    · rw [ex, ey] at q; omega
    · have e1 := px.1.2
      have e2 := py.1.2
      rw [← e2] at e1
      have := q.1
      have := q.2
      simp_all
    · exact q.2
  · intro x
    simp only [List.mem_filter, List.mem_range, Bool.and_eq_true, decide_eq_true_eq, beq_iff_eq, hE.mem]
    constructor
    · rintro ⟨h1, h2, h3, h4, h5⟩
      exact ⟨⟨⟨h1, h2⟩, h4, by rw [h3]; exact hdr⟩, h3, h5⟩
    · rintro ⟨⟨⟨h1, h2⟩, h4, -⟩, h3, h5⟩
      exact ⟨h1, h2, h3, h4, h5⟩
theorem M_sum12 {S : St} {mb ne a : Nat} {l : List Nat} (m : MOK S mb) (h4 : mi S mb 4 = nI ne) (hne : ne ≤ 600) (hb : ∀ x, x < ne → Mi S mb 15 x = 6 → 1 ≤ (Mi S mb 18 x).toInt) (hd : ∀ x, x < ne → 0 ≤ (Mi S mb 16 x).toInt ∧ (Mi S mb 16 x).toInt ≤ 19999) (hE : EL (Mi S mb) ne a l) (D K : Int32) : ∀ (n fu : Nat) (v : Int64) (d r : Int32), n < fu → (l.filter (rfp (Mi S mb) K d)).length ≤ n → (r = -1 ∧ (∀ y, y < ne → ¬ cnd (Mi S mb) a d K y) ∨ ∃ z, z < ne ∧ cnd (Mi S mb) a d K z ∧ r = Mi S mb 16 z ∧ ∀ y, y < ne → cnd (Mi S mb) a d K y → (Mi S mb 16 z).toInt ≤ (Mi S mb 16 y).toInt) → f_X12_sumOf_12 fu S mb (nI a) D K v r = some ((l.filter (rfp (Mi S mb) K d)).foldl (fun v x => if decide ((Mi S mb 16 x).toInt ≤ D.toInt) then chg (Mi S mb) x v else v) v)
  | n, 0, v, d, r, h, _, _ => by omega
  | n, fu + 1, v, d, r, h, hl, hr => by
    unfold f_X12_sumOf_12
    rcases hr with ⟨q1, q2⟩ | ⟨z, z1, z2, z3, z4⟩
    · rw [if_pos q1]
      have : l.filter (rfp (Mi S mb) K d) = [] := by
        rw [List.filter_eq_nil_iff]
        intro y hy q
        simp only [Bool.and_eq_true, decide_eq_true_eq] at q
        exact q2 y (hE.mem.mp hy).1 ⟨(hE.mem.mp hy).2, q.1, q.2⟩
      rw [this]; rfl
    · have hz := hd z z1
      have rI : r.toInt = (Mi S mb 16 z).toInt := by rw [z3]
      rw [if_neg (by rw [eq_i]; simp only [Int32.reduceToInt]; omega)]
      have hmR : ∀ x, x ∈ l.filter (rfp (Mi S mb) K d) → r.toInt ≤ (Mi S mb 16 x).toInt := by
        intro x hx
        rw [List.mem_filter] at hx
        obtain ⟨hx1, hx2⟩ := hx
        simp only [Bool.and_eq_true, decide_eq_true_eq] at hx2
        rw [rI]
        exact z4 x (hE.mem.mp hx1).1 ⟨(hE.mem.mp hx1).2, hx2.1, hx2.2⟩
      by_cases c : D.toInt < r.toInt
      · rw [if_pos (by rw [lt_i]; exact c), foldl_same]
        intro w x hx
        have := hmR x hx
        rw [if_neg (by simp only [decide_eq_true_eq]; omega)]
      · rw [if_neg (by rw [lt_i]; exact c)]
        have g1 := M_sum27 (a := a) m h4 hne hb D K r ne 0 FU v (by omega) (by unfold FU; omega)
        rw [nI_0] at g1
        rw [g1]
        simp only [Option.bind_some]
        have g2 := M_sum155 (a := a) m h4 hne D K r ne 0 FU ((List.range' 0 ne).foldl (fun v x => if decide (Mi S mb 14 x = nI a) && (decide (Mi S mb 16 x = r) && (decide ((Mi S mb 19 x).toInt ≤ K.toInt) && decide (Mi S mb 15 x = 6))) then chg (Mi S mb) x v else v) v) (by omega) (by unfold FU; omega)
        rw [nI_0] at g2
        rw [g2]
        simp only [Option.bind_some, mV m]
        have r1 : (r + 1).toInt = r.toInt + 1 := add_i (by show _ ≤ r.toInt + 1; omega) (by show r.toInt + 1 < _; omega)
        obtain ⟨r', n1, n2⟩ := M_next6 (a := a) m h4 hne (fun x hx => (hd x hx).1) (r + 1) K ne 0 FU (-1) (by omega) (by unfold FU; omega) (Or.inl ⟨rfl, fun y hy => by omega⟩)
        rw [nI_0] at n1
        unfold f_X12_nextDay
        rw [n1]
        simp only [Option.bind_some]
        have hdr : d.toInt ≤ r.toInt := by rw [rI]; exact z2.2.2
        have hR' : l.filter (rfp (Mi S mb) K (r + 1)) = (l.filter (rfp (Mi S mb) K d)).filter (fun x => decide (r.toInt < (Mi S mb 16 x).toInt)) := by
          rw [List.filter_filter]
          apply List.filter_congr
          intro x _
          rw [Bool.eq_iff_iff]
          simp only [Bool.and_eq_true, decide_eq_true_eq, r1]
          constructor
          · rintro ⟨u1, u2⟩; exact ⟨by omega, u1, by omega⟩
          · rintro ⟨u1, u2, u3⟩; exact ⟨u2, by omega⟩
        have hzR : z ∈ l.filter (rfp (Mi S mb) K d) := by
          rw [List.mem_filter]
          refine ⟨hE.mem.mpr ⟨z1, z2.1⟩, ?_⟩
          simp only [Bool.and_eq_true, decide_eq_true_eq]
          exact ⟨z2.2.1, z2.2.2⟩
        have hlt : (l.filter (rfp (Mi S mb) K (r + 1))).length < (l.filter (rfp (Mi S mb) K d)).length := by
          rw [hR', List.length_filter_lt_length_iff_exists]
          refine ⟨z, hzR, ?_⟩
          simp only [decide_eq_true_eq]
          omega
        rw [M_sum12 m h4 hne hb hd hE D K (n - 1) fu _ (r + 1) r' (by omega) (by omega) n2]
        have hsR : (l.filter (rfp (Mi S mb) K d)).Pairwise (eLt (Mi S mb)) := hE.2.filter _
        have sp := split_day hsR hmR
        have l1 := day_list (K := K) (d := d) hE hdr true
        have l2 := day_list (K := K) (d := d) hE hdr false
        have w1 : ∀ w, (List.range' 0 ne).foldl (fun v x => if decide (Mi S mb 14 x = nI a) && (decide (Mi S mb 16 x = r) && (decide ((Mi S mb 19 x).toInt ≤ K.toInt) && decide (Mi S mb 15 x = 6))) then chg (Mi S mb) x v else v) w = ((List.range ne).filter (fun x => decide (Mi S mb 14 x = nI a) && (decide (Mi S mb 16 x = r) && (decide ((Mi S mb 19 x).toInt ≤ K.toInt) && decide (Mi S mb 15 x = 6))))).foldl (fun v x => chg (Mi S mb) x v) w := fun w => by rw [List.foldl_filter, List.range_eq_range']
        have w2 : ∀ w, (List.range' 0 ne).foldl (fun v x => if decide (Mi S mb 14 x = nI a) && (decide (Mi S mb 16 x = r) && (decide ((Mi S mb 19 x).toInt ≤ K.toInt) && decide (Mi S mb 15 x ≠ 6))) then chg (Mi S mb) x v else v) w = ((List.range ne).filter (fun x => decide (Mi S mb 14 x = nI a) && (decide (Mi S mb 16 x = r) && (decide ((Mi S mb 19 x).toInt ≤ K.toInt) && decide (Mi S mb 15 x ≠ 6))))).foldl (fun v x => chg (Mi S mb) x v) w := fun w => by rw [List.foldl_filter, List.range_eq_range']
        rw [w1, w2]
        have e1 : (List.range ne).filter (fun x => decide (Mi S mb 14 x = nI a) && (decide (Mi S mb 16 x = r) && (decide ((Mi S mb 19 x).toInt ≤ K.toInt) && decide (Mi S mb 15 x = 6)))) = (l.filter (rfp (Mi S mb) K d)).filter (fun x => decide (Mi S mb 16 x = r) && decide (Mi S mb 15 x = 6)) := by
          simpa using l1
        have e2 : (List.range ne).filter (fun x => decide (Mi S mb 14 x = nI a) && (decide (Mi S mb 16 x = r) && (decide ((Mi S mb 19 x).toInt ≤ K.toInt) && decide (Mi S mb 15 x ≠ 6)))) = (l.filter (rfp (Mi S mb) K d)).filter (fun x => decide (Mi S mb 16 x = r) && decide (Mi S mb 15 x ≠ 6)) := by
          simpa using l2
        rw [e1, e2, hR']
        conv => rhs; rw [sp]
        rw [List.foldl_append, List.foldl_append]
        congr 2
        have f1 : ∀ w, ((l.filter (rfp (Mi S mb) K d)).filter (fun x => decide (Mi S mb 16 x = r) && decide (Mi S mb 15 x = 6))).foldl (fun v x => if decide ((Mi S mb 16 x).toInt ≤ D.toInt) then chg (Mi S mb) x v else v) w = ((l.filter (rfp (Mi S mb) K d)).filter (fun x => decide (Mi S mb 16 x = r) && decide (Mi S mb 15 x = 6))).foldl (fun v x => chg (Mi S mb) x v) w := fun w => foldl_ext (fun v x hx => by
          rw [List.mem_filter] at hx
          have := hx.2
          simp only [Bool.and_eq_true, decide_eq_true_eq] at this
          rw [if_pos (by simp only [decide_eq_true_eq]; rw [this.1]; omega)]) w
        have f2 : ∀ w, ((l.filter (rfp (Mi S mb) K d)).filter (fun x => decide (Mi S mb 16 x = r) && decide (Mi S mb 15 x ≠ 6))).foldl (fun v x => if decide ((Mi S mb 16 x).toInt ≤ D.toInt) then chg (Mi S mb) x v else v) w = ((l.filter (rfp (Mi S mb) K d)).filter (fun x => decide (Mi S mb 16 x = r) && decide (Mi S mb 15 x ≠ 6))).foldl (fun v x => chg (Mi S mb) x v) w := fun w => foldl_ext (fun v x hx => by
          rw [List.mem_filter] at hx
          have := hx.2
          simp only [Bool.and_eq_true, decide_eq_true_eq] at this
          rw [if_pos (by simp only [decide_eq_true_eq]; rw [this.1]; omega)]) w
        rw [f1, f2]
