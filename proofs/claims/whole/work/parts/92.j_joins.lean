/-! JOININGS: the reference's way through all partings -/
def blk (γ : Nat → Nat) (i m : Nat) : List (List Nat) := (List.range m).map (fun g => (List.range i).filter (fun k => decide (γ k = g)))
def fs (wt : Nat → Nat → Int) : List (List Nat) → Int
  | [] => 0
  | B :: bs => fw wt B + fs wt bs
def es (a b : Nat) : List (List Nat) → Int
  | [] => 0
  | B :: bs => (if a ∈ B ∧ b ∈ B then 1 else 0) + es a b bs
theorem fil1 (p : Nat → Bool) (k : Nat) : List.filter p [k] = if p k = true then [k] else [] := by
  cases h : p k
  · rw [List.filter_cons_of_neg (by rw [h]; decide)]; rfl
  · rw [List.filter_cons_of_pos h]; rfl
section Blk
variable {wt : Nat → Nat → Int} {br : Nat → Nat → Bool} {γ : Nat → Nat} {i m g : Nat}
theorem fs_app (p s : List (List Nat)) : fs wt (p ++ s) = fs wt p + fs wt s := by
  induction p with
  | nil => show fs wt s = 0 + _; omega
  | cons B p ih =>
    show fw wt B + fs wt (p ++ s) = fw wt B + fs wt p + _
    rw [ih]; omega
theorem tots0 (bs : List (List Nat)) (h : ∀ B ∈ bs, bar br B = false) : tots (c0_ wt br) bs = (fs wt bs, 0) := by
  induction bs with
  | nil => rfl
  | cons B bs ih =>
    have e : c0_ wt br B = some (fw wt B, 0) := by unfold c0_; rw [h B List.mem_cons_self]; rfl
    show (((c0_ wt br B).getD (0, 0)).1 + (tots (c0_ wt br) bs).1, ((c0_ wt br B).getD (0, 0)).2 + (tots (c0_ wt br) bs).2) = _
    rw [e, ih (fun D hD => h D (List.mem_cons_of_mem _ hD))]
    rfl
theorem totsF {a b : Nat} (bs : List (List Nat)) (h : ∀ B ∈ bs, bar br B = false) : tots (cF wt br a b) bs = (fs wt bs, es a b bs) := by
  induction bs with
  | nil => rfl
  | cons B bs ih =>
    have e : cF wt br a b B = some (fw wt B, if a ∈ B ∧ b ∈ B then 1 else 0) := by unfold cF; rw [h B List.mem_cons_self]; rfl
    show (((cF wt br a b B).getD (0, 0)).1 + (tots (cF wt br a b) bs).1, ((cF wt br a b B).getD (0, 0)).2 + (tots (cF wt br a b) bs).2) = _
    rw [e, ih (fun D hD => h D (List.mem_cons_of_mem _ hD))]
    rfl
theorem es_app (a b : Nat) (p s : List (List Nat)) : es a b (p ++ s) = es a b p + es a b s := by
  induction p with
  | nil => show es a b s = 0 + _; omega
  | cons B p ih =>
    show (if a ∈ B ∧ b ∈ B then (1 : Int) else 0) + es a b (p ++ s) = (if a ∈ B ∧ b ∈ B then (1 : Int) else 0) + es a b p + _
    rw [ih]; omega
theorem es_blk {a b n : Nat} (ha : a < n) (hb : b < n) : ∀ m, es a b (blk γ n m) = if γ a = γ b ∧ γ a < m then 1 else 0 := by
  intro m
  induction m with
  | zero => rw [if_neg (by omega)]; rfl
  | succ m ih =>
    unfold blk at ih ⊢
    rw [List.range_succ, List.map_append, es_app, ih]
    show _ + ((if a ∈ (List.range n).filter (fun k => decide (γ k = m)) ∧ b ∈ (List.range n).filter (fun k => decide (γ k = m)) then (1 : Int) else 0) + 0) = _
    have e : (a ∈ (List.range n).filter (fun k => decide (γ k = m)) ∧ b ∈ (List.range n).filter (fun k => decide (γ k = m))) ↔ (γ a = m ∧ γ b = m) := by
      rw [List.mem_filter, List.mem_filter, List.mem_range, List.mem_range, decide_eq_true_eq, decide_eq_true_eq]
      exact ⟨fun z => ⟨z.1.2, z.2.2⟩, fun z => ⟨⟨ha, z.1⟩, ⟨hb, z.2⟩⟩⟩
    by_cases c1 : γ a = m ∧ γ b = m
    · rw [if_pos (e.mpr c1), if_neg (by omega), if_pos (by omega)]; rfl
    · rw [if_neg (fun z => c1 (e.mp z))]
      by_cases c2 : γ a = γ b ∧ γ a < m
      · rw [if_pos c2, if_pos (by omega)]; rfl
      · rw [if_neg c2, if_neg (by omega)]; rfl
theorem blk_len (γ : Nat → Nat) (i m : Nat) : (blk γ i m).length = m := by
  unfold blk
  rw [List.length_map, List.length_range]
theorem blk_at {j : Nat} (h : j < m) : (blk γ i m)[j]? = some ((List.range i).filter (fun k => decide (γ k = j))) := by
  unfold blk
  rw [List.getElem?_map, List.getElem?_range h]
  rfl
theorem fil_up (j : Nat) : (List.range (i + 1)).filter (fun k => decide (up1 γ i g k = j)) = (List.range i).filter (fun k => decide (γ k = j)) ++ (if g = j then [i] else []) := by
  rw [List.range_succ, List.filter_append]
  congr 1
  · refine List.filter_congr (fun k hk => ?_)
    rw [List.mem_range] at hk
    rw [up1_ne _ (by omega)]
  · by_cases c : g = j
    · rw [if_pos c]
      rw [fil1]
      rw [up1_eq, if_pos (decide_eq_true c)]
    · rw [if_neg c]
      rw [fil1]
      rw [up1_eq, if_neg (fun z => c (of_decide_eq_true z))]
/-- one more, in a block that is there -/
theorem blk_in {pre suf : List (List Nat)} {B : List Nat} (e : blk γ i m = pre ++ B :: suf) (hg : pre.length = g) : blk (up1 γ i g) (i + 1) m = pre ++ (B ++ [i]) :: suf ∧ B = (List.range i).filter (fun k => decide (γ k = g)) := by
  have hl := congrArg List.length e
  rw [blk_len, List.length_append, List.length_cons] at hl
  have hB : B = (List.range i).filter (fun k => decide (γ k = g)) := by
    have h1 := blk_at (γ := γ) (i := i) (m := m) (j := g) (by omega)
    rw [e, List.getElem?_append_right (by omega), hg, Nat.sub_self] at h1
    exact Option.some.inj h1
  refine ⟨List.ext_getElem? (fun j => ?_), hB⟩
  by_cases hj : j < m
  · rw [blk_at hj, fil_up]
    rcases Nat.lt_trichotomy j g with c | c | c
    · rw [if_neg (by omega), List.append_nil, List.getElem?_append_left (by omega)]
      have h1 := blk_at (γ := γ) (i := i) hj
      rw [e, List.getElem?_append_left (by omega)] at h1
      exact h1.symm
    · rw [if_pos c.symm, List.getElem?_append_right (by omega), c, hg, Nat.sub_self]
      show some _ = some (B ++ [i])
      rw [hB]
    · rw [if_neg (by omega), List.append_nil, List.getElem?_append_right (by omega)]
      have h1 := blk_at (γ := γ) (i := i) hj
      rw [e, List.getElem?_append_right (by omega)] at h1
      obtain ⟨d, hd⟩ : ∃ d, j - pre.length = d + 1 := ⟨j - pre.length - 1, by omega⟩
      rw [hd] at h1 ⊢
      exact h1.symm
  · rw [List.getElem?_eq_none (by rw [blk_len]; omega), List.getElem?_eq_none (by rw [List.length_append, List.length_cons]; omega)]
/-- one more, alone -/
theorem blk_new (hγ : ∀ k, k < i → γ k < m) : blk (up1 γ i m) (i + 1) (m + 1) = blk γ i m ++ [[i]] := by
  refine List.ext_getElem? (fun j => ?_)
  by_cases hj : j < m + 1
  · rw [blk_at hj, fil_up]
    by_cases c : j < m
    · rw [if_neg (by omega), List.append_nil, List.getElem?_append_left (by rw [blk_len]; exact c), blk_at c]
    · have : j = m := by omega
      rw [if_pos this.symm, List.getElem?_append_right (by rw [blk_len]; omega), blk_len, this, Nat.sub_self]
      have e : (List.range i).filter (fun k => decide (γ k = m)) = [] := by
        rw [List.filter_eq_nil_iff]
        intro k hk
        rw [List.mem_range] at hk
        have := hγ k hk
        rw [decide_eq_true_eq]
        omega
      rw [e]
      rfl
  · rw [List.getElem?_eq_none (by rw [blk_len]; omega), List.getElem?_eq_none (by rw [List.length_append, blk_len]; show m + 1 ≤ j; omega)]
theorem swr_snoc (z b : Nat) (l : List Nat) : swr wt z (l ++ [b]) = swr wt z l + wt b z := by
  induction l with
  | nil => show wt b z + 0 = 0 + wt b z; omega
  | cons a l ih =>
    show wt a z + swr wt z (l ++ [b]) = wt a z + swr wt z l + _
    rw [ih]; omega
theorem swr_le (hw : ∀ i k, -5 ≤ wt i k ∧ wt i k ≤ 9) (z : Nat) (l : List Nat) : -(14 * (l.length : Int)) ≤ swr wt z l ∧ swr wt z l ≤ 14 * (l.length : Int) := by
  induction l with
  | nil => exact ⟨by show -(14 * ((0 : Nat) : Int)) ≤ 0; omega, by show 0 ≤ 14 * ((0 : Nat) : Int); omega⟩
  | cons b l ih =>
    have h := hw b z
    show -(14 * ((l.length + 1 : Nat) : Int)) ≤ wt b z + swr wt z l ∧ wt b z + swr wt z l ≤ 14 * ((l.length + 1 : Nat) : Int)
    omega
end Blk
section Joins
variable {xb n : Nat} {pv : Nat → Nat → Int32} {br : Nat → Nat → Bool} {ps : Nat → Nat}
/-- what the reference finds of a pair -/
def PRo (T : St) (xb n : Nat) (pv : Nat → Nat → Int32) (br : Nat → Nat → Bool) (ps : Nat → Nat) : Prop := MOK T (xb + 22) ∧ mi T (xb + 22) 63 = nI n ∧ (∀ k, k < n → mi T (xb + 22 + 43) k = nI (ps k)) ∧ ∀ i k, i < k → k < n → f_X12_isBarred T (xb + 22) (nI (ps i)) (nI (ps k)) = some (if br i k then 1 else 0) ∧ ∃ v, f_X12_pointsOf T (xb + 22) (nI (ps i)) (nI (ps k)) = some v ∧ v - 5 = pv i k
theorem M_j32 {ru : St → Nat → Int32 → Int32 → Int32 → Option St} {T : St} {γ : Nat → Nat} {i g : Nat} {x2 x3 : Int32} (h : PRo T xb n pv br ps) (n8 : n ≤ 8) (hw : ∀ i k, -5 ≤ wtv pv i k ∧ wtv pv i k ≤ 9) (hi : i < n) (hg8 : g < 9) (hγ : ∀ k, k < i → mi T (xb + 22 + 44) k = nI (γ k) ∧ γ k < 9) : ∀ (r k fu : Nat) (x5 x6 : Int32) (pre : List Nat), k + r = i → r < fu → pre = (List.range k).filter (fun q => decide (γ q = g)) → x5 = (if pre.any (fun b => br b i) then 0 else 1) → x6.toInt = swr (wtv pv) i pre → ∃ y5 y6 : Int32, f_X12_joins_32 ru fu T (xb + 22) (nI i) x2 x3 (nI g) x5 x6 (nI k) = some (xb + 22, nI i, x2, x3, nI g, y5, y6, T) ∧ y5 = (if ((List.range i).filter (fun q => decide (γ q = g))).any (fun b => br b i) then 0 else 1) ∧ y6.toInt = swr (wtv pv) i ((List.range i).filter (fun q => decide (γ q = g))) := by
  obtain ⟨m, h63, hin, hpr⟩ := h
  intro r
  induction r with
  | zero =>
    intro k fu x5 x6 pre e1 e2 e3 e4 e5
    obtain ⟨fu, rfl⟩ : ∃ k, fu = k + 1 := ⟨fu - 1, by omega⟩
    have : k = i := by omega
    subst this
    unfold f_X12_joins_32
    rw [if_pos (nI_le (by omega) (by omega))]
    exact ⟨x5, x6, rfl, by rw [e4, e3], by rw [e5, e3]⟩
  | succ r ih =>
    intro k fu x5 x6 pre e1 e2 e3 e4 e5
    obtain ⟨fu, rfl⟩ : ∃ k, fu = k + 1 := ⟨fu - 1, by omega⟩
    have hk : k < i := by omega
    obtain ⟨g1, g2⟩ := hγ k hk
    have lp : pre.length ≤ 8 := by
      rw [e3]
      have := List.length_filter_le (fun q => decide (γ q = g)) (List.range k)
      rw [List.length_range] at this
      omega
    have pre' : (List.range (k + 1)).filter (fun q => decide (γ q = g)) = pre ++ (if γ k = g then [k] else []) := by
      rw [List.range_succ, List.filter_append, ← e3]
      congr 1
      by_cases c : γ k = g
      · rw [if_pos c]
        rw [fil1]
        rw [if_pos (decide_eq_true c)]
      · rw [if_neg c]
        rw [fil1]
        rw [if_neg (fun z => c (of_decide_eq_true z))]
    unfold f_X12_joins_32
    rw [if_neg (nI_ge (by omega) (by omega))]
    simp only [mR_group m, mL_group m (show k < 8 by omega), g1, Option.bind_some]
    have hge : (nI (γ k) = nI g) ↔ γ k = g := nI_eq (by omega) (by omega)
    by_cases c : γ k = g
    · rw [if_pos (hge.mpr c)]
      rw [if_pos c] at pre'
      obtain ⟨b1, v, v1, v2⟩ := hpr k i hk hi
      have b0 := swr_le hw i pre
      have hwk := hw k i
      have ea : (pre ++ [k]).any (fun b => br b i) = (pre.any (fun b => br b i) || br k i) := by
        rw [List.any_append]
        show (pre.any (fun b => br b i) || (br k i || false)) = _
        rw [Bool.or_false]
      have e6 : (x6 + (v - 5)).toInt = swr (wtv pv) i (pre ++ [k]) := by
        rw [v2, swr_snoc, add_i (by rw [e5]; show _ ≤ _ + wtv pv k i; omega) (by rw [e5]; show _ + wtv pv k i < _; omega), e5]
      have h83 : ∀ t0 : Int32, t0 = (if (pre ++ [k]).any (fun b => br b i) then 0 else 1) → ∃ y5 y6 : Int32, f_X12_joins_83 ru (f_X12_joins_32 ru fu) T (xb + 22) (nI i) x2 x3 (nI g) x6 (nI k) t0 = some (xb + 22, nI i, x2, x3, nI g, y5, y6, T) ∧ y5 = (if ((List.range i).filter (fun q => decide (γ q = g))).any (fun b => br b i) then 0 else 1) ∧ y6.toInt = swr (wtv pv) i ((List.range i).filter (fun q => decide (γ q = g))) := by
        intro t0 ht
        unfold f_X12_joins_83
        simp only [mR_inSet m, mL_inSet m (show k < 8 by omega), mL_inSet m (show i < 8 by omega), hin k (by omega), hin i hi, mV m, v1, Option.bind_some, nI_1]
        exact ih (k + 1) fu t0 (x6 + (v - 5)) (pre ++ [k]) (by omega) (by omega) pre'.symm ht e6
      unfold f_X12_joins_82
      simp only [mR_inSet m, mL_inSet m (show k < 8 by omega), mL_inSet m (show i < 8 by omega), hin k (by omega), hin i hi, mV m, b1, Option.bind_some]
      by_cases c5 : pre.any (fun b => br b i) = true
      · rw [if_pos c5] at e4
        rw [if_pos e4]
        exact h83 0 (by rw [ea, c5]; rfl)
      · rw [if_neg c5] at e4
        have c5' : pre.any (fun b => br b i) = false := by
          cases hh : pre.any (fun b => br b i) with
          | true => exact absurd hh c5
          | false => rfl
        rw [if_neg (by rw [e4]; decide)]
        by_cases c6 : br k i = true
        · rw [if_pos c6, if_neg (by decide)]
          exact h83 0 (by rw [ea, c5', c6]; rfl)
        · have c6' : br k i = false := by
            cases hh : br k i with
            | true => exact absurd hh c6
            | false => rfl
          rw [if_neg c6, if_pos rfl]
          exact h83 1 (by rw [ea, c5', c6']; rfl)
    · rw [if_neg (fun z => c (hge.mp z)), nI_1]
      rw [if_neg c, List.append_nil] at pre'
      exact ih (k + 1) fu x5 x6 pre (by omega) (by omega) pre'.symm e4 e5
end Joins
