theorem j17_go {ru : St → Nat → Int32 → Int32 → Int32 → Option St} {F f : Nat} {T : St} {x0 : Nat} {x1 x2 x3 x4 y5 y6 : Int32} (h : f_X12_joins_32 ru F T x0 x1 x2 x3 x4 1 0 0 = some (x0, x1, x2, x3, x4, y5, y6, T)) : ((f_X12_joins_32 ru F T x0 x1 x2 x3 x4 1 0 0).bind fun (x0, x1_32, x2_32, x3_32, x4_32, x5_32, x6_32, S_32) => (if x5_32 = 0 then
    f_X12_joins_17 ru f S_32 x0 x1_32 x2_32 x3_32 (x4_32 + 1)
    else
    (getR S_32 (some x0) 13 61).bind fun v124 =>
    (stI S_32 v124 15 x1_32 x4_32).bind fun S130 =>
    (if x4_32 = x2_32 then
    f_X12_joins_148 ru (f_X12_joins_17 ru f) S130 x0 x1_32 x2_32 x3_32 x4_32 x6_32 (x2_32 + 1) (x1_32 + 1) (some x0)
    else
    f_X12_joins_148 ru (f_X12_joins_17 ru f) S130 x0 x1_32 x2_32 x3_32 x4_32 x6_32 x2_32 (x1_32 + 1) (some x0)))) = (if y5 = 0 then
    f_X12_joins_17 ru f T x0 x1 x2 x3 (x4 + 1)
    else
    (getR T (some x0) 13 61).bind fun v124 =>
    (stI T v124 15 x1 x4).bind fun S130 =>
    (if x4 = x2 then
    f_X12_joins_148 ru (f_X12_joins_17 ru f) S130 x0 x1 x2 x3 x4 y6 (x2 + 1) (x1 + 1) (some x0)
    else
    f_X12_joins_148 ru (f_X12_joins_17 ru f) S130 x0 x1 x2 x3 x4 y6 x2 (x1 + 1) (some x0))) := by
  rw [h]
  rfl
section Joins2
variable {xb n : Nat} {pv : Nat → Nat → Int32} {br : Nat → Nat → Bool} {ps : Nat → Nat} {T0 : St}
def JR (xb n : Nat) (pv : Nat → Nat → Int32) (br : Nat → Nat → Bool) (T0 : St) (d r i : Nat) : Prop := ∀ (T : St) (γ : Nat → Nat) (m : Nat) (W : Int32) (Z : ZF) (Zt : Nat → Nat → ZF), JW xb T0 T → (∀ k, k < i → mi T (xb + 22 + 44) k = nI (γ k) ∧ γ k < m) → m ≤ i → (∀ B ∈ blk γ i m, bar br B = false) → W.toInt = fs (wtv pv) (blk γ i m) → -(112 * (i : Int)) ≤ W.toInt ∧ W.toInt ≤ 112 * (i : Int) → (∀ w, Z w 0 + 8 ^ r < 2 ^ 31) → CB xb n T Z Zt → ∃ T' Z' Zt', r_X12_joins d T (xb + 22) (nI i) (nI m) W = some T' ∧ JW xb T0 T' ∧ (∀ k, k < i → mi T' (xb + 22 + 44) k = mi T (xb + 22 + 44) k) ∧ CB xb n T' Z' Zt' ∧ (∀ w, Z' w 0 = Z w 0 + Gn (c0_ (wtv pv) br) (blk γ i m) (List.range' i r) w 0) ∧ ∀ a b w, a < n → b < n → Zt' a b w 1 = Zt a b w 1 + Gn (cF (wtv pv) br a b) (blk γ i m) (List.range' i r) w 1
theorem JR_0 (n8 : n ≤ 8) (hP : ∀ T, JW xb T0 T → PRo T xb n pv br ps) (d : Nat) : JR xb n pv br T0 (d + 1) 0 n := by
  intro T γ m W Z Zt w hg hm hv hW hWb hb hC
  obtain ⟨mT, h63, -, -⟩ := hP T w
  obtain ⟨T', g1, g2, g3, g4⟩ := M_counts (γ := γ) (W := W) (Z' := fun w t => Z w t + Gn (c0_ (wtv pv) br) (blk γ n m) [] w t) (Zt' := fun a b w t => Zt a b w t + Gn (cF (wtv pv) br a b) (blk γ n m) [] w t) n8 (fun k hk => by have := (hg k hk).2; omega) mT h63 (fun k hk => (hg k hk).1) (fun w => by have := hb w; omega) hC (fun w => by
    have h0 : ∀ B ∈ blk γ n m, c0_ (wtv pv) br B ≠ none := fun B hB => by
      unfold c0_
      rw [hv B hB]
      simp
    rw [Gn_leaf _ _ _ h0, tots0 _ hv]
    show Z w 0 + (if w = fs (wtv pv) (blk γ n m) ∧ (0 : Int) = 0 then 1 else 0) = _
    rw [hW]
    congr 1
    by_cases c : w = fs (wtv pv) (blk γ n m)
    · rw [if_pos ⟨c, rfl⟩, if_pos c]
    · rw [if_neg (fun z => c z.1), if_neg c]) (fun a b w ha hb' => by
    have h0 : ∀ B ∈ blk γ n m, cF (wtv pv) br a b B ≠ none := fun B hB => by
      unfold cF
      rw [hv B hB]
      simp
    show Zt a b w 1 + Gn (cF (wtv pv) br a b) (blk γ n m) [] w 1 = _
    rw [Gn_leaf _ _ _ h0, totsF _ hv, es_blk ha hb' m]
    show Zt a b w 1 + (if w = fs (wtv pv) (blk γ n m) ∧ (1 : Int) = (if γ a = γ b ∧ γ a < m then 1 else 0) then 1 else 0) = _
    rw [hW]
    congr 1
    have ham := (hg a ha).2
    by_cases c2 : γ a = γ b
    · rw [if_pos (show γ a = γ b ∧ γ a < m from ⟨c2, ham⟩)]
      by_cases c : w = fs (wtv pv) (blk γ n m)
      · rw [if_pos ⟨c, rfl⟩, if_pos ⟨c, c2⟩]
      · rw [if_neg (fun z => c z.1), if_neg (fun z => c z.1)]
    · rw [if_neg (show ¬ (γ a = γ b ∧ γ a < m) from fun z => c2 z.1), if_neg (fun z => absurd z.2 (by decide)), if_neg (fun z => c2 z.2)])
  refine ⟨T', _, _, ?_, w.tr g2, fun k _ => by rw [g3], g4, fun w => rfl, fun a b w _ _ => rfl⟩
  show f_X12_joins (r_X12_joins d) T (xb + 22) (nI n) (nI m) W = some T'
  unfold f_X12_joins
  simp only [mI mT, h63, mV mT, g1, Option.bind_some, if_true]
/-- one place for the next one -/
theorem M_j1 {d r i g m fu : Nat} {T : St} {γ : Nat → Nat} {W : Int32} {Z : ZF} {Zt : Nat → Nat → ZF} (n8 : n ≤ 8) (hP : ∀ T, JW xb T0 T → PRo T xb n pv br ps) (hw : ∀ i k, -5 ≤ wtv pv i k ∧ wtv pv i k ≤ 9) (hR : JR xb n pv br T0 d r (i + 1)) (hi : i + 1 + r = n) (hgm : g ≤ m) (w : JW xb T0 T) (hg : ∀ k, k < i → mi T (xb + 22 + 44) k = nI (γ k) ∧ γ k < m) (hm : m ≤ i) (hWb : -(112 * (i : Int)) ≤ W.toInt ∧ W.toInt ≤ 112 * (i : Int)) (hb : ∀ w, Z w 0 + 8 ^ r < 2 ^ 31) (hC : CB xb n T Z Zt) (hfs : fs (wtv pv) (blk (up1 γ i g) (i + 1) (if g = m then m + 1 else m)) = W.toInt + swr (wtv pv) i ((List.range i).filter (fun k => decide (γ k = g)))) (hbar : ((List.range i).filter (fun k => decide (γ k = g))).any (fun b => br b i) = false → ∀ B ∈ blk (up1 γ i g) (i + 1) (if g = m then m + 1 else m), bar br B = false) (hbar2 : ((List.range i).filter (fun k => decide (γ k = g))).any (fun b => br b i) = true → ∃ B ∈ blk (up1 γ i g) (i + 1) (if g = m then m + 1 else m), bar br B = true) : ∃ T' Z' Zt', f_X12_joins_17 (r_X12_joins d) (fu + 1) T (xb + 22) (nI i) (nI m) W (nI g) = f_X12_joins_17 (r_X12_joins d) fu T' (xb + 22) (nI i) (nI m) W (nI (g + 1)) ∧ JW xb T0 T' ∧ (∀ k, k < i → mi T' (xb + 22 + 44) k = mi T (xb + 22 + 44) k) ∧ CB xb n T' Z' Zt' ∧ (∀ w, Z' w 0 = Z w 0 + Gn (c0_ (wtv pv) br) (blk (up1 γ i g) (i + 1) (if g = m then m + 1 else m)) (List.range' (i + 1) r) w 0) ∧ ∀ a b w, a < n → b < n → Zt' a b w 1 = Zt a b w 1 + Gn (cF (wtv pv) br a b) (blk (up1 γ i g) (i + 1) (if g = m then m + 1 else m)) (List.range' (i + 1) r) w 1 := by
  have hPT := hP T w
  have mT := hPT.1
  obtain ⟨y5, y6, e1, e2, e3⟩ := M_j32 (ru := r_X12_joins d) (γ := γ) (i := i) (g := g) (x2 := nI m) (x3 := W) hPT n8 hw (by omega) (by omega) (fun k hk => ⟨(hg k hk).1, by have := (hg k hk).2; omega⟩) i 0 FU 1 0 [] (by omega) (by unfold FU; omega) rfl rfl rfl
  rw [nI_0] at e1
  rw [f_X12_joins_17, if_neg (by rw [lt_i, nI_toInt (by omega), nI_toInt (by omega)]; omega), j17_go e1]
  have lB : ((List.range i).filter (fun k => decide (γ k = g))).length ≤ 8 := by
    have := List.length_filter_le (fun k => decide (γ k = g)) (List.range i)
    rw [List.length_range] at this
    omega
  have sl := swr_le hw i ((List.range i).filter (fun k => decide (γ k = g)))
  by_cases ca : ((List.range i).filter (fun k => decide (γ k = g))).any (fun b => br b i) = true
  · rw [if_pos ca] at e2
    rw [if_pos e2, nI_1]
    refine ⟨T, Z, Zt, rfl, w, fun k _ => rfl, hC, fun w => ?_, fun a b w _ _ => ?_⟩
    · rw [Gn_barred (c := c0_ (wtv pv) br) (br := br) (fun l hl => if_pos hl) _ _ _ _ (hbar2 ca)]; rfl
    · rw [Gn_barred (c := cF (wtv pv) br a b) (br := br) (fun l hl => if_pos hl) _ _ _ _ (hbar2 ca)]; rfl
  · rw [if_neg ca] at e2
    have ca' : ((List.range i).filter (fun k => decide (γ k = g))).any (fun b => br b i) = false := by
      cases hh : ((List.range i).filter (fun k => decide (γ k = g))).any (fun b => br b i) with
      | true => exact absurd hh ca
      | false => rfl
    rw [if_neg (by rw [e2]; decide)]
    simp only [mR_group mT, mS_group mT (show i < 8 by omega), nrw15, Option.bind_some, nI_1]
    obtain ⟨A, hA⟩ : ∃ A, A = setI T (xb + 22 + 44) i (nI g) := ⟨_, rfl⟩
    rw [← hA]
    have sA : SW (PQ xb) T A := by rw [hA]; exact SW_I _ _ (Or.inr (Or.inl rfl))
    have a0 : mi A (xb + 22) = mi T (xb + 22) := by
      funext z
      rw [hA, mi_setI_i, if_neg (by omega)]
    have a45 : mi A (xb + 22 + 45) = mi T (xb + 22 + 45) := by
      funext z
      rw [hA, mi_setI_i, if_neg (by omega)]
    have wA : JW xb T0 A := w.tr ⟨sA, fun f _ _ => by rw [a0]⟩
    have a44 : ∀ k, k < i → mi A (xb + 22 + 44) k = mi T (xb + 22 + 44) k := fun k hk => by rw [hA, mi_setI_i, if_neg (by omega)]
    have a44i : mi A (xb + 22 + 44) i = nI g := by rw [hA, mi_setI_i, if_pos ⟨rfl, rfl⟩]
    have cA : CB xb n A Z Zt := by
      unfold CB at hC ⊢
      rw [a0, a45]
      exact hC
    obtain ⟨m', hm'⟩ : ∃ m', m' = if g = m then m + 1 else m := ⟨_, rfl⟩
    have hm2 : m' ≤ i + 1 ∧ g < m' ∧ m ≤ m' := by
      rw [hm']
      split <;> omega
    rw [← hm'] at hfs hbar ⊢
    have hWn : (W + y6).toInt = W.toInt + y6.toInt := add_i (by omega) (by omega)
    obtain ⟨T', Z', Zt', f1, f2, f3, f4, f5, f6⟩ := hR A (up1 γ i g) m' (W + y6) Z Zt wA (fun k hk => by
      by_cases e : k = i
      · rw [e, up1_eq]; exact ⟨a44i, hm2.2.1⟩
      · rw [up1_ne _ e, a44 k (by omega)]
        have := hg k (by omega)
        exact ⟨this.1, by omega⟩) hm2.1 (hbar ca') (by rw [hWn, hfs, e3]) (by rw [hWn]; omega) hb cA
    have h148 : f_X12_joins_148 (r_X12_joins d) (f_X12_joins_17 (r_X12_joins d) fu) A (xb + 22) (nI i) (nI m) W (nI g) y6 (nI m') (nI (i + 1)) (some (xb + 22)) = f_X12_joins_17 (r_X12_joins d) fu T' (xb + 22) (nI i) (nI m) W (nI (g + 1)) := by
      unfold f_X12_joins_148
      simp only [mV (hP A wA).1, f1, Option.bind_some, nI_1]
    refine ⟨T', Z', Zt', ?_, f2, fun k hk => by rw [f3 k (by omega), a44 k hk], f4, f5, f6⟩
    by_cases c : g = m
    · rw [if_pos c] at hm'
      rw [hm'] at h148
      rw [if_pos (by rw [c]), h148]
    · rw [if_neg c] at hm'
      rw [hm'] at h148
      rw [if_neg (fun z => c ((nI_eq (by omega) (by omega)).mp z)), h148]
theorem any_bar {l : List Nat} {i : Nat} (h : bar br l = false) : bar br (l ++ [i]) = l.any (fun b => br b i) := by
  rw [bar_snoc, h, Bool.false_or]
theorem M_j17 {d r i m : Nat} {γ : Nat → Nat} {W : Int32} (n8 : n ≤ 8) (hP : ∀ T, JW xb T0 T → PRo T xb n pv br ps) (hw : ∀ i k, -5 ≤ wtv pv i k ∧ wtv pv i k ≤ 9) (hR : JR xb n pv br T0 d r (i + 1)) (hi : i + 1 + r = n) (hm : m ≤ i) (hγ : ∀ k, k < i → γ k < m) (hv : ∀ B ∈ blk γ i m, bar br B = false) (hW : W.toInt = fs (wtv pv) (blk γ i m)) (hWb : -(112 * (i : Int)) ≤ W.toInt ∧ W.toInt ≤ 112 * (i : Int)) : ∀ (suf pre : List (List Nat)) (fu : Nat) (T : St) (Z : ZF) (Zt : Nat → Nat → ZF), blk γ i m = pre ++ suf → suf.length + 1 < fu → JW xb T0 T → (∀ k, k < i → mi T (xb + 22 + 44) k = nI (γ k)) → CB xb n T Z Zt → (∀ w, Z w 0 + (suf.length + 1) * 8 ^ r < 2 ^ 31) → ∃ T' Z' Zt', f_X12_joins_17 (r_X12_joins d) fu T (xb + 22) (nI i) (nI m) W (nI pre.length) = some T' ∧ JW xb T0 T' ∧ (∀ k, k < i → mi T' (xb + 22 + 44) k = mi T (xb + 22 + 44) k) ∧ CB xb n T' Z' Zt' ∧ (∀ w, Z' w 0 = Z w 0 + lsum (adds suf i) (fun b => Gn (c0_ (wtv pv) br) (pre ++ b) (List.range' (i + 1) r)) w 0) ∧ ∀ a b w, a < n → b < n → Zt' a b w 1 = Zt a b w 1 + lsum (adds suf i) (fun e => Gn (cF (wtv pv) br a b) (pre ++ e) (List.range' (i + 1) r)) w 1 := by
  intro suf
  induction suf with
  | nil =>
    intro pre fu T Z Zt e hf w hg hC hb
    obtain ⟨fu, rfl⟩ : ∃ k, fu = k + 2 := ⟨fu - 2, by rw [List.length_nil] at hf; omega⟩
    rw [List.append_nil] at e
    have hl : pre.length = m := by rw [← e, blk_len]
    have nb : blk (up1 γ i m) (i + 1) (m + 1) = pre ++ [[i]] := by rw [← e]; exact blk_new hγ
    have fe : (List.range i).filter (fun k => decide (γ k = m)) = [] := by
      rw [List.filter_eq_nil_iff]
      intro k hk
      rw [List.mem_range] at hk
      have := hγ k hk
      rw [decide_eq_true_eq]
      omega
    obtain ⟨T', Z', Zt', f1, f2, f3, f4, f5, f6⟩ := M_j1 (fu := fu + 1) (g := m) (m := m) (γ := γ) n8 hP hw hR hi (Nat.le_refl _) w (fun k hk => ⟨hg k hk, hγ k hk⟩) hm hWb (fun w => by have := hb w; rw [List.length_nil] at this; omega) hC (by
      rw [if_pos rfl, nb, fe, fs_app, hW, e]
      rfl) (fun _ B hB => by
      rw [if_pos rfl, nb] at hB
      rcases List.mem_append.mp hB with q | q
      · exact hv B (by rw [e]; exact q)
      · rw [List.mem_singleton] at q; rw [q]; rfl) (fun q => by rw [fe] at q; cases q)
    rw [if_pos rfl, nb] at f5
    rw [hl, f1]
    refine ⟨T', Z', Zt', ?_, f2, f3, f4, fun w => ?_, fun a b w ha hb' => ?_⟩
    · rw [f_X12_joins_17, if_pos (by rw [lt_i, nI_toInt (by omega), nI_toInt (by omega)]; omega)]
    · rw [f5]; rfl
    · have := f6 a b w ha hb'
      rw [if_pos rfl, nb] at this
      rw [this]; rfl
  | cons B suf ih =>
    intro pre fu T Z Zt e hf w hg hC hb
    obtain ⟨fu, rfl⟩ : ∃ k, fu = k + 1 := ⟨fu - 1, by rw [List.length_cons] at hf; omega⟩
    have hl := congrArg List.length e
    rw [blk_len, List.length_append, List.length_cons] at hl
    obtain ⟨nb, hB⟩ := blk_in e (rfl : pre.length = pre.length)
    have hne : ¬ pre.length = m := by omega
    have vB : bar br B = false := hv B (by rw [e]; exact List.mem_append_right _ List.mem_cons_self)
    obtain ⟨T', Z', Zt', f1, f2, f3, f4, f5, f6⟩ := M_j1 (fu := fu) (g := pre.length) (m := m) (γ := γ) n8 hP hw hR hi (by omega) w (fun k hk => ⟨hg k hk, hγ k hk⟩) hm hWb (fun w => by
      have h1 := hb w
      rw [List.length_cons, Nat.add_mul] at h1
      omega) hC (by
      rw [if_neg hne, nb, ← hB, fs_app, hW, e, fs_app]
      show fs (wtv pv) pre + (fw (wtv pv) (B ++ [i]) + fs (wtv pv) suf) = fs (wtv pv) pre + (fw (wtv pv) B + fs (wtv pv) suf) + swr (wtv pv) i B
      rw [fw_snoc]
      omega) (fun q D hD => by
      rw [if_neg hne, nb] at hD
      rw [← hB] at q
      rcases List.mem_append.mp hD with z | z
      · exact hv D (by rw [e]; exact List.mem_append_left _ z)
      · rcases List.mem_cons.mp z with y | y
        · rw [y, any_bar vB]; exact q
        · exact hv D (by rw [e]; exact List.mem_append_right _ (List.mem_cons_of_mem _ y))) (fun q => by
      rw [if_neg hne, nb]
      rw [← hB] at q
      exact ⟨B ++ [i], List.mem_append_right _ List.mem_cons_self, by rw [any_bar vB]; exact q⟩)
    rw [if_neg hne, nb] at f5
    have gle : ∀ w, Gn (c0_ (wtv pv) br) (pre ++ (B ++ [i]) :: suf) (List.range' (i + 1) r) w 0 ≤ 8 ^ r := fun w => by
      have := Gn_le (c := c0_ (wtv pv) br) (List.range' (i + 1) r) (pre ++ (B ++ [i]) :: suf) w 0 (by rw [List.length_append, List.length_cons, List.length_range']; omega)
      rw [List.length_range'] at this
      exact this
    obtain ⟨T2, Z2, Zt2, h1, h2, h3, h4, h5, h6⟩ := ih (pre ++ [B]) fu T' Z' Zt' (by rw [e]; simp) (by rw [List.length_cons] at hf; omega) f2 (fun k hk => by rw [f3 k hk]; exact hg k hk) f4 (fun w => by
      have q1 := hb w
      have q2 := gle w
      rw [f5 w]
      rw [List.length_cons, Nat.add_mul (suf.length + 1) 1] at q1
      omega)
    rw [List.length_append, show ([B] : List (List Nat)).length = 1 from rfl] at h1
    rw [f1, h1]
    refine ⟨T2, Z2, Zt2, rfl, h2, fun k hk => by rw [h3 k hk, f3 k hk], h4, fun w => ?_, fun a b w ha hb' => ?_⟩
    · rw [h5, f5]
      show _ = Z w 0 + (Gn (c0_ (wtv pv) br) (pre ++ ((B ++ [i]) :: suf)) (List.range' (i + 1) r) w 0 + lsum ((adds suf i).map (B :: ·)) (fun b => Gn (c0_ (wtv pv) br) (pre ++ b) (List.range' (i + 1) r)) w 0)
      rw [lsum_map, Nat.add_assoc]
      congr 1
      congr 1
      refine lsum_congr (fun x _ => ?_)
      rw [List.append_assoc]
      rfl
    · have := f6 a b w ha hb'
      rw [if_neg hne, nb] at this
      rw [h6 a b w ha hb', this]
      show _ = Zt a b w 1 + (Gn (cF (wtv pv) br a b) (pre ++ ((B ++ [i]) :: suf)) (List.range' (i + 1) r) w 1 + lsum ((adds suf i).map (B :: ·)) (fun e => Gn (cF (wtv pv) br a b) (pre ++ e) (List.range' (i + 1) r)) w 1)
      rw [lsum_map, Nat.add_assoc]
      congr 1
      congr 1
      refine lsum_congr (fun x _ => ?_)
      rw [List.append_assoc]
      rfl
theorem JR_all (n8 : n ≤ 8) (hP : ∀ T, JW xb T0 T → PRo T xb n pv br ps) (hw : ∀ i k, -5 ≤ wtv pv i k ∧ wtv pv i k ≤ 9) : ∀ (r i d : Nat), i + r = n → r < d → JR xb n pv br T0 d r i := by
  intro r
  induction r with
  | zero =>
    intro i d e1 e2
    obtain ⟨d, rfl⟩ : ∃ k, d = k + 1 := ⟨d - 1, by omega⟩
    have : i = n := by omega
    subst this
    exact JR_0 n8 hP d
  | succ r ih =>
    intro i d e1 e2
    obtain ⟨d, rfl⟩ : ∃ k, d = k + 1 := ⟨d - 1, by omega⟩
    have hR := ih (i + 1) d (by omega) (by omega)
    intro T γ m W Z Zt w hg hm hv hW hWb hb hC
    obtain ⟨T', Z', Zt', f1, f2, f3, f4, f5, f6⟩ := M_j17 (γ := γ) (W := W) n8 hP hw hR (by omega) hm (fun k hk => (hg k hk).2) hv hW hWb (blk γ i m) [] FU T Z Zt rfl (by rw [blk_len]; unfold FU; omega) w (fun k hk => (hg k hk).1) hC (fun w => by
      have h1 := hb w
      rw [blk_len]
      have h2 : (m + 1) * 8 ^ r ≤ 8 * 8 ^ r := Nat.mul_le_mul_right _ (by omega)
      rw [Nat.pow_succ, Nat.mul_comm] at h1
      omega)
    rw [show ([] : List (List Nat)).length = 0 from rfl, nI_0] at f1
    have er : List.range' i (r + 1) = i :: List.range' (i + 1) r := List.range'_succ ..
    refine ⟨T', Z', Zt', ?_, f2, f3, f4, fun w => ?_, fun a b w ha hb' => ?_⟩
    · obtain ⟨mT, h63, -, -⟩ := hP T w
      show f_X12_joins (r_X12_joins d) T (xb + 22) (nI i) (nI m) W = some T'
      unfold f_X12_joins
      simp only [mI mT, h63, Option.bind_some]
      rw [if_neg (by rw [nI_eq (by omega) (by omega)]; omega)]
      exact f1
    · rw [f5, er, Gn_rec]; rfl
    · rw [f6 a b w ha hb', er, Gn_rec]; rfl
end Joins2
