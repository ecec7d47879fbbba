/-! JOININGS: the class's reckoning -/
def P4 (xb z : Nat) : Prop := z = xb + 14 ∨ z = xb + 15 ∨ z = xb + 16
theorem bits_srt (s : Nat) : (bits s).Pairwise (· < ·) := List.Pairwise.filter _ List.pairwise_lt_range
theorem tb {s : Nat} (h0 : 0 < s) (hs : s < 256) : ∃ f R, bits s = f :: R ∧ f < 8 ∧ nI s &&& -(nI s) = nI (2 ^ f) ∧ nI s ^^^ nI (2 ^ f) = nI (mk_ R) ∧ chnB (nI (mk_ R)) ((subs R).map (fun p => nI (mk_ p.1))) = true ∧ (nI s &&& (nI s - 1)) &&& 255 = nI (mk_ R) ∧ bits (mk_ R) = R ∧ mk_ R < s ∧ ∀ p ∈ subs R, (nI (2 ^ f) ||| nI (mk_ p.1)) &&& 255 = nI (mk_ (f :: p.1)) ∧ (nI s &&& (nI (mk_ (f :: p.1)) ^^^ (-1))) &&& 255 = nI (mk_ p.2) ∧ bits (mk_ (f :: p.1)) = f :: p.1 ∧ bits (mk_ p.2) = p.2 ∧ mk_ (f :: p.1) ≤ s ∧ mk_ p.2 < s := by
  have h := List.all_eq_true.mp tab2_ok s (List.mem_range.mpr hs)
  unfold tab2 at h
  cases e : bits s with
  | nil =>
    rw [e] at h
    have := of_decide_eq_true h
    omega
  | cons f R =>
    rw [e] at h
    simp only [Bool.and_eq_true, decide_eq_true_eq, List.all_eq_true] at h
    obtain ⟨⟨⟨⟨⟨⟨⟨h1, h2⟩, h3⟩, h4⟩, h5⟩, h6⟩, h7⟩, h8⟩ := h
    refine ⟨f, R, rfl, h1, h2, h3, h4, h5, h6, h7, fun p hp => ?_⟩
    obtain ⟨⟨⟨⟨⟨g1, g2⟩, g3⟩, g4⟩, g5⟩, g6⟩ := h8 p hp
    exact ⟨g1, g2, g3, g4, g5, g6⟩
section Reck
variable {xb n : Nat} {pv : Nat → Nat → Int32} {br : Nat → Nat → Bool}
/-- the pairs' worths as the class finds them -/
def PWo (T : St) (xb n : Nat) (pv : Nat → Nat → Int32) (br : Nat → Nat → Bool) : Prop := ∀ i k, i < k → k < n → f_X5_pairWorth T (xb + 12) (nI i) (nI k) = some (if br i k then -9999 else pv i k)
abbrev wtv (pv : Nat → Nat → Int32) : Nat → Nat → Int := fun i k => (pv i k).toInt
def WV (pv : Nat → Nat → Int32) (br : Nat → Nat → Bool) (v : Int32) (l : List Nat) : Prop := (bar br l = true ∧ v = -9999) ∨ (bar br l = false ∧ v.toInt = fw (wtv pv) l)
theorem m9 : (-9999 : Int32).toInt = -9999 := rfl
theorem X_w2 {T : St} {s f : Nat} (x : XOK T xb) (h1 : mi T (xb + 12) 1 = nI n) (n8 : n ≤ 8) (hs : s < 256) (hf : f ∈ bits s) (hfn : f < n) (hm : ∀ j, j < f → j ∉ bits s) : ∀ (k i fu : Nat), i + k = f → k < fu → f_X5_worthOf_2 fu T (xb + 12) (nI s) (nI i) = some (xb + 12, nI s, nI f) := by
  intro k
  induction k with
  | zero =>
    intro i fu e1 e2
    obtain ⟨fu, rfl⟩ : ∃ k, fu = k + 1 := ⟨fu - 1, by omega⟩
    have : i = f := by omega
    subst this
    unfold f_X5_worthOf_2
    simp only [getI_s (xK_joining x), h1, Option.bind_some]
    rw [if_neg (nI_ge (by omega) (by omega)), bits_test hs (by omega), if_pos hf, if_neg (by decide)]
  | succ k ih =>
    intro i fu e1 e2
    obtain ⟨fu, rfl⟩ : ∃ k, fu = k + 1 := ⟨fu - 1, by omega⟩
    unfold f_X5_worthOf_2
    simp only [getI_s (xK_joining x), h1, Option.bind_some, nI_1]
    rw [if_neg (nI_ge (by omega) (by omega)), bits_test hs (by omega), if_neg (hm i (by omega)), if_pos rfl]
    exact ih (i + 1) fu (by omega) (by omega)
theorem X_w47 {T : St} {f : Nat} {R : List Nat} (x : XOK T xb) (h1 : mi T (xb + 12) 1 = nI n) (n8 : n ≤ 8) (hP : PWo T xb n pv br) (hw : ∀ i k, -5 ≤ wtv pv i k ∧ wtv pv i k ≤ 9) (hR8 : R.length ≤ 7) (hR : bits (mk_ R) = R) (hR2 : mk_ R < 256) (hs : R.Pairwise (· < ·)) (hn : ∀ y ∈ R, y < n) : ∀ (m i fu : Nat) (v : Int32) (pre Q : List Nat), i + m = n → m < fu → f < i → R = pre ++ Q → (∀ y ∈ pre, y < i) → (∀ y ∈ Q, i ≤ y) → ((bar br R || pre.any (br f)) = true ∧ v = -9999 ∨ (bar br R || pre.any (br f)) = false ∧ v.toInt = fw (wtv pv) R + sw (wtv pv) f pre) → ∃ v', f_X5_worthOf_47 fu T (xb + 12) (nI f) (nI (mk_ R)) v (nI i) = some v' ∧ WV pv br v' (f :: R) := by
  intro m
  induction m with
  | zero =>
    intro i fu v pre Q e1 e2 hf eR hp hq hv
    obtain ⟨fu, rfl⟩ : ∃ k, fu = k + 1 := ⟨fu - 1, by omega⟩
    have : Q = [] := by
      cases Q with
      | nil => rfl
      | cons y Q =>
        have y1 := hq y List.mem_cons_self
        have y2 := hn y (by rw [eR]; exact List.mem_append_right _ List.mem_cons_self)
        omega
    rw [this, List.append_nil] at eR
    unfold f_X5_worthOf_47
    simp only [getI_s (xK_joining x), h1, Option.bind_some]
    rw [if_pos (nI_le (by omega) (by omega))]
    refine ⟨v, rfl, ?_⟩
    rw [← eR] at hv
    unfold WV
    show ((R.any (br f) || bar br R) = true ∧ v = -9999) ∨ ((R.any (br f) || bar br R) = false ∧ v.toInt = fw (wtv pv) R + sw (wtv pv) f R)
    rw [Bool.or_comm]
    exact hv
  | succ m ih =>
    intro i fu v pre Q e1 e2 hf eR hp hq hv
    obtain ⟨fu, rfl⟩ : ∃ k, fu = k + 1 := ⟨fu - 1, by omega⟩
    unfold f_X5_worthOf_47
    simp only [getI_s (xK_joining x), h1, Option.bind_some]
    rw [if_neg (nI_ge (by omega) (by omega))]
    have b1 := fw_le hw R (by omega)
    have b2 := sw_le hw f pre
    have lp : pre.length ≤ 7 := by
      have := congrArg List.length eR
      rw [List.length_append] at this
      omega
    by_cases d : v = -9999
    · rw [if_pos d]
      refine ⟨v, rfl, Or.inl ⟨?_, d⟩⟩
      rcases hv with ⟨a1, -⟩ | ⟨-, a2⟩
      · show (R.any (br f) || bar br R) = true
        rw [Bool.or_eq_true] at a1 ⊢
        rcases a1 with a | a
        · exact Or.inr a
        · left; rw [eR, List.any_append, a]; rfl
      · rw [d, m9] at a2
        omega
    · rw [if_neg d]
      obtain ⟨a1, a2⟩ := hv.resolve_left (fun z => d z.2)
      rw [bits_test hR2 (by omega), hR]
      by_cases c : i ∈ R
      · rw [if_pos c, if_pos rfl]
        -- it is the next one
        obtain ⟨Q', hQ⟩ : ∃ Q', Q = i :: Q' := by
          rw [eR, List.mem_append] at c
          rcases c with c | c
          · have := hp i c; omega
          · cases Q with
            | nil => cases c
            | cons y Q =>
              rw [eR, List.pairwise_append, List.pairwise_cons] at hs
              rcases List.mem_cons.mp c with e | e
              · exact ⟨Q, by rw [e]⟩
              · have h5 := hs.2.1.1 i e
                have h6 := hq y List.mem_cons_self
                omega
        rw [hQ] at eR
        have eR' : R = (pre ++ [i]) ++ Q' := by rw [eR]; simp
        have hs' := hs
        rw [eR, List.pairwise_append, List.pairwise_cons] at hs'
        simp only [xV_joining x, hP f i hf (by omega), Option.bind_some, nI_1]
        have hq' : ∀ y ∈ Q', i + 1 ≤ y := fun y hy => by have := hs'.2.1.1 y hy; omega
        have hp' : ∀ y ∈ pre ++ [i], y < i + 1 := fun y hy => by
          rcases List.mem_append.mp hy with e | e
          · have := hp y e; omega
          · rw [List.mem_singleton] at e; omega
        have ea : (pre ++ [i]).any (br f) = (pre.any (br f) || br f i) := by
          rw [List.any_append]
          show (pre.any (br f) || (br f i || false)) = _
          rw [Bool.or_false]
        have es := sw_snoc (wt := wtv pv) f i pre
        have hwi := hw f i
        rw [Bool.or_eq_false_iff] at a1
        by_cases bb : br f i = true
        · rw [if_pos bb, if_pos rfl]
          refine ih (i + 1) fu (-9999) (pre ++ [i]) Q' (by omega) (by omega) (by omega) eR' hp' hq' (Or.inl ⟨?_, rfl⟩)
          rw [ea, bb, a1.1, a1.2]
          rfl
        · have nb : br f i = false := by
            cases h : br f i with
            | true => exact absurd h bb
            | false => rfl
          have np' : ¬ pv f i = -9999 := fun z => by
            have : wtv pv f i = -9999 := by show (pv f i).toInt = -9999; rw [z]; rfl
            omega
          rw [if_neg bb, if_neg np']
          refine ih (i + 1) fu (v + pv f i) (pre ++ [i]) Q' (by omega) (by omega) (by omega) eR' hp' hq' (Or.inr ⟨?_, ?_⟩)
          · rw [ea, nb, a1.1, a1.2]
            rfl
          · rw [es, add_i (by show _ ≤ v.toInt + wtv pv f i; omega) (by show v.toInt + wtv pv f i < _; omega), a2]
            show fw (wtv pv) R + sw (wtv pv) f pre + wtv pv f i = _
            omega
      · rw [if_neg c, if_neg (by decide), nI_1]
        refine ih (i + 1) fu v pre Q (by omega) (by omega) (by omega) eR (fun y hy => by have := hp y hy; omega) (fun y hy => ?_) hv
        have h6 := hq y hy
        by_cases e : y = i
        · exfalso
          apply c
          rw [eR, ← e]
          exact List.mem_append_right _ hy
        · omega
theorem lt_mk : ∀ {n s : Nat}, n ≤ 8 → s < 2 ^ n → s < 256 ∧ ∀ y ∈ bits s, y < n := by
  intro n s hn hs
  refine ⟨Nat.lt_of_lt_of_le hs (Nat.pow_le_pow_right (by omega) hn), fun y hy => ?_⟩
  unfold bits at hy
  rw [List.mem_filter] at hy
  by_cases c : y < n
  · exact c
  · have := Nat.testBit_lt_two_pow (i := y) (Nat.lt_of_lt_of_le hs (Nat.pow_le_pow_right (by omega) (Nat.le_of_not_lt c)))
    rw [this] at hy
    cases hy.2
theorem X_worthOf {T : St} {s : Nat} (x : XOK T xb) (h1 : mi T (xb + 12) 1 = nI n) (n8 : n ≤ 8) (hP : PWo T xb n pv br) (hw : ∀ i k, -5 ≤ wtv pv i k ∧ wtv pv i k ≤ 9) (h0 : 0 < s) (hs : s < 2 ^ n) (hW : ∀ z, z < s → WV pv br (mi T (xb + 14) z) (bits z)) : ∃ v, f_X5_worthOf T (xb + 12) (nI s) = some v ∧ WV pv br v (bits s) := by
  obtain ⟨s256, hlt⟩ := lt_mk n8 hs
  obtain ⟨f, R, t1, t2, t3, t4, t5, t6, t7, t8, -⟩ := tb h0 s256
  have srt := bits_srt s
  rw [t1] at srt hlt
  rw [List.pairwise_cons] at srt
  have hfn : f < n := hlt f List.mem_cons_self
  have g := X_w2 (f := f) x h1 n8 s256 (by rw [t1]; exact List.mem_cons_self) hfn (fun j hj hm => by
    rw [t1] at hm
    rcases List.mem_cons.mp hm with e | e
    · omega
    · have := srt.1 j e; omega) f 0 FU (by omega) (by unfold FU; omega)
  rw [nI_0] at g
  unfold f_X5_worthOf
  rw [g]
  simp only [Option.bind_some]
  unfold f_X5_worthOf_24
  have w0 := hW (mk_ R) t8
  rw [t7] at w0
  have l14 : ldI T (some (xb + 14)) 15 (nI (mk_ R)) = some (mi T (xb + 14) (mk_ R)) := ldI_s (xK_worth x) (xN_worth x) (by omega) (by decide)
  rw [t6]
  simp only [xR_worth x, l14, Option.bind_some, nI_1]
  have hl := bits_len s
  rw [t1, List.length_cons] at hl
  rw [t1]
  refine X_w47 x h1 n8 hP hw (by omega) t7 (by omega) srt.2 (fun y hy => hlt y (List.mem_cons_of_mem _ hy)) (n - (f + 1)) (f + 1) FU _ [] R (by omega) (by unfold FU; omega) (by omega) rfl (fun y hy => by cases hy) (fun y hy => by have := srt.1 y hy; omega) ?_
  show (bar br R || false) = true ∧ _ ∨ (bar br R || false) = false ∧ _ = fw (wtv pv) R + 0
  rw [Bool.or_false, Int.add_zero]
  exact w0
end Reck
