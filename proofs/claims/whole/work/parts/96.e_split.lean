theorem kw_pos (tb : Nat → Nat) (p e : Nat) : kw tb p e ≠ 0 ∧ kw tb p e < 17 := by
  rcases kwn_is (tb := tb) (p := p) (e := e) 14 0 rfl with ⟨j, -, a2, -, a4⟩ | ⟨-, a2⟩
  · unfold kw; omega
  · unfold kw; omega
theorem sgn_pos (k : Nat) : sgn k ≠ 0 ∧ sgn k < 27 := by
  unfold sgn
  repeat' split
  all_goals omega
theorem cls_L {k : Nat} (h : isL k = true) : isB k = false ∧ isD k = false := by
  unfold isL at h
  have h := of_decide_eq_true h
  unfold isB isD
  exact ⟨decide_eq_false (by omega), decide_eq_false (by omega)⟩
theorem cls_D {k : Nat} (h : isD k = true) : isB k = false := by
  unfold isD at h
  have h := of_decide_eq_true h
  unfold isB
  exact decide_eq_false (by omega)
theorem WE_0 {P : Nat → Bool} {tb : Nat → Nat} {n i : Nat} (hi : i < n) (h : P (tb i) = false) : WE P tb n i i := ⟨Nat.le_refl _, by omega, fun j h1 h2 => by omega, fun _ => h⟩
theorem WE_1 {P : Nat → Bool} {tb : Nat → Nat} {n i e : Nat} (hi : i < n) (h : WE P tb n i e) (hp : P (tb i) = true) : i < e := by
  rcases Nat.lt_or_ge i e with c | c
  · exact c
  · have : e = i := by have := h.1; omega
    have z := h.2.2.2 (by omega)
    rw [this, hp] at z
    cases z
section Split
variable {S T : St} {xb n l r : Nat} {ts : List Tk} {f : Nat → Nat} {tb : Nat → Nat}
theorem X_num23 {A B : St} {a p e : Nat} (x : XOK T xb) (hB : BTc T xb tb n) (hw : WE isD tb n p e) (h5 : e - p ≤ 5) (hn : newO T 11 = some (a, A)) (hr : rcv A (some a) 11 = some a) (hi : f_X10_init A a 2 (nI p) (nI (nv tb p (e - p))) = some B) : ∀ (m i fu : Nat), i + m = e → m < fu → p ≤ i → f_X10_number_23 fu T (some (xb + 5)) (nI p) (nI e) (nI (nv tb p (i - p))) (nI i) = some (some a, B) := by
  have h6 := hB.1
  obtain ⟨w1, w2, w3, -⟩ := hw
  intro m
  induction m with
  | zero =>
    intro i fu e1 e2 e3
    obtain ⟨fu, rfl⟩ : ∃ k, fu = k + 1 := ⟨fu - 1, by omega⟩
    have : i = e := by omega
    subst this
    unfold f_X10_number_23
    rw [if_pos (nI_le (by omega) (by omega)), hn]
    simp only [Option.bind_some, hr, hi]
  | succ m ih =>
    intro i fu e1 e2 e3
    obtain ⟨fu, rfl⟩ : ∃ k, fu = k + 1 := ⟨fu - 1, by omega⟩
    have hin : i < n := by omega
    have hd := w3 i e3 (by omega)
    have sbk : sb (tb i) = nI (tb i) := (ch_k (hB.2 i hin).2 T).2.2.2.2.2.2.2.1 hd
    have h48 : 48 ≤ tb i := by
      unfold isD at hd
      have := of_decide_eq_true hd
      omega
    unfold f_X10_number_23
    rw [if_neg (nI_ge (by omega) (by omega))]
    simp only [X_byteAt x hB hin, sbk, Option.bind_some, nI_1]
    have e4 : nI (nv tb p (i - p)) * 10 + nI (tb i) - 48 = nI (nv tb p (i + 1 - p)) := by
      rw [show i + 1 - p = (i - p) + 1 by omega]
      show _ = nI (10 * nv tb p (i - p) + (tb (p + (i - p)) - 48))
      rw [show p + (i - p) = i by omega, show (10 : Int32) = nI 10 from rfl, pk_mul, nI_add, show (48 : Int32) = nI 48 from rfl, pk_sub (by omega)]
      congr 1
      omega
    rw [e4]
    exact ih (i + 1) fu (by omega) (by omega) (by omega)
theorem X_split10 (b : BS S xb) (hB : BTc S xb tb n) (hc : nx S + 990 ≤ cap S) (hs : sl S + 13900 ≤ 7302250) : ∀ (N i fu : Nat) (T : St) (ts : List Tk) (f : Nat → Nat) (r : Nat), n - i ≤ N → i ≤ n → N < fu → ts.length ≤ i → SPL S T l ts f r → ∃ T' ts' f' r', f_X10_split_10 fu T (some (xb + 5)) (nI n) (some l) (nI i) = some (some l, T') ∧ SPL S T' l (ts ++ ts') f' r' ∧ TKS tb n i ts' := by
  have h6 := hB.1
  intro N
  induction N with
  | zero =>
    intro i fu T ts f r e1 e2 e3 e4 h
    obtain ⟨fu, rfl⟩ : ∃ k, fu = k + 1 := ⟨fu - 1, by omega⟩
    have : i = n := by omega
    subst this
    obtain ⟨n1, n2, n3⟩ := X_new h (by omega) hc hs
    obtain ⟨B, C, f', r', c1, c2, c3, c4⟩ := X_app h (by omega) hc hs (0, i, 0, i)
    rw [nI_0] at c1
    unfold f_X10_split_10
    rw [if_pos (nI_le (by omega) (by omega)), n1]
    simp only [Option.bind_some, rcv_s n3, c1, c2, c3]
    have we : WE isB tb i i i := ⟨Nat.le_refl _, Nat.le_refl _, fun j h1 h2 => by omega, fun h => by omega⟩
    exact ⟨C, [(0, i, 0, i)], f', r', rfl, c4, ⟨we, Or.inl ⟨rfl, rfl, rfl, rfl⟩⟩, Or.inl ⟨rfl, rfl⟩⟩
  | succ N ih =>
    intro i fu T ts f r e1 e2 e3 e4 h
    by_cases hin : i < n
    · obtain ⟨fu, rfl⟩ : ∃ k, fu = k + 1 := ⟨fu - 1, by omega⟩
      obtain ⟨x, -, l0, bT⟩ := fr_bs (n := n) (tb := tb) b h.1
      have hT := bT hB
      obtain ⟨n1, n2, n3⟩ := X_new h (by omega) hc hs
      obtain ⟨xA, -, lA, bA⟩ := fr_bs (n := n) (tb := tb) b n2
      have hA := bA hB
      have cc := ch_k (hT.2 i hin).2 T
      have cA := ch_k (hT.2 i hin).2 (mk0 T 3 11 0)
      obtain ⟨e, w1, w2⟩ := X_wordEnd x hT hin
      have he : e ≤ n := w2.2.1
      have hie : i ≤ e := w2.1
      -- on behind a token
      have go : ∀ (t : Tk) (C : St) (f' : Nat → Nat) (r' k : Nat), SPL S C l (ts ++ [t]) f' r' → i < k → k ≤ n → (if nI i + 1 < nI e then nI e else nI i + 1) = nI k → TOK tb n i t.1 t.2.1 t.2.2.1 t.2.2.2 → t.1 ≠ 0 → t.2.2.2 = k → ∃ T' ts' f' r', f_X10_split_112 (f_X10_split_10 fu) C (some (xb + 5)) (nI n) (some l) (nI i) (nI e) = some (some l, T') ∧ SPL S T' l (ts ++ ts') f' r' ∧ TKS tb n i ts' := by
        intro t C f' r' k h1 h2 h3 h4 h5 h7 h8
        obtain ⟨T', ts', f2, r2, g1, g2, g3⟩ := ih k fu C (ts ++ [t]) f' r' (by omega) h3 (by omega) (by rw [List.length_append]; show ts.length + 1 ≤ k; omega) h1
        refine ⟨T', t :: ts', f2, r2, ?_, ?_, h5, Or.inr ⟨h7, by rw [h8]; exact g3⟩⟩
        · unfold f_X10_split_112
          simp only [max_s, h4, Option.bind_some]
          exact g1
        · rw [List.append_assoc] at g2
          exact g2
      unfold f_X10_split_10
      rw [if_neg (nI_ge (by omega) (by omega))]
      simp only [X_byteAt x hT hin, w1, cc.1, cc.2.1, cc.2.2.1, Option.bind_some]
      cases cl : isL (tb i) with
      | true =>
        rw [cl] at w2
        have w2' : WE isL tb n i e := w2
        have lt := WE_1 hin w2' cl
        rw [if_neg (by decide), n1]
        simp only [Option.bind_some, X_keyword xA hA lA w2', rcv_s n3]
        obtain ⟨B, C, f', r', c1, c2, c3, c4⟩ := X_app h (by omega) hc hs (kw tb i e, i, 0, e)
        rw [nI_0] at c1
        simp only [c1, c2, c3, Option.bind_some]
        refine go (kw tb i e, i, 0, e) C f' r' e c4 lt he ?_ ⟨WE_0 hin (cls_L cl).1, Or.inr (Or.inl ⟨hin, cl, w2', rfl, rfl⟩)⟩ (kw_pos tb i e).1 rfl
        rw [nI_1]
        by_cases q : i + 1 < e
        · rw [if_pos (by rw [lt_i, nI_toInt (by omega), nI_toInt (by omega)]; omega)]
        · rw [if_neg (by rw [lt_i, nI_toInt (by omega), nI_toInt (by omega)]; omega), show i + 1 = e by omega]
      | false =>
        rw [cl] at w2
        have w2' : WE isD tb n i e := w2
        rw [if_neg (show ¬ (false = true) by decide), if_pos rfl]
        cases cd : isD (tb i) with
        | true =>
          have lt := WE_1 hin w2' cd
          rw [if_neg (by decide)]
          have mx : (if nI i + 1 < nI e then nI e else nI i + 1) = nI e := by
            rw [nI_1]
            by_cases q : i + 1 < e
            · rw [if_pos (by rw [lt_i, nI_toInt (by omega), nI_toInt (by omega)]; omega)]
            · rw [if_neg (by rw [lt_i, nI_toInt (by omega), nI_toInt (by omega)]; omega), show i + 1 = e by omega]
          unfold f_X10_number
          rw [pk_sub hie]
          by_cases h5 : e - i ≤ 5
          · rw [if_pos (by rw [le_i, nI_toInt (by omega)]; simp only [Int32.reduceToInt]; omega)]
            obtain ⟨B, C, f', r', c1, c2, c3, c4⟩ := X_app h (by omega) hc hs (2, i, nv tb i (e - i), e)
            have g := X_num23 x hT w2' h5 n1 (rcv_s n3) c1 (e - i) i FU (by omega) (by unfold FU; omega) (Nat.le_refl _)
            rw [Nat.sub_self, show nv tb i 0 = 0 from rfl, nI_0] at g
            rw [g]
            simp only [Option.bind_some, c2, c3]
            exact go (2, i, nv tb i (e - i), e) C f' r' e c4 lt he mx ⟨WE_0 hin (cls_D cd), Or.inr (Or.inr (Or.inl ⟨hin, cl, cd, w2', Or.inl ⟨h5, rfl, rfl⟩⟩))⟩ (by show (2 : Nat) ≠ 0; omega) rfl
          · rw [if_neg (by rw [le_i, nI_toInt (by omega)]; simp only [Int32.reduceToInt]; omega)]
            obtain ⟨B, C, f', r', c1, c2, c3, c4⟩ := X_app h (by omega) hc hs (1, i, 0, e)
            rw [nI_0] at c1
            rw [n1]
            have c1' : f_X10_init (mk0 T 3 11 0) (nx T) 1 (nI i) 0 = some B := c1
            simp only [Option.bind_some, rcv_s n3, c1', c2, c3]
            exact go (1, i, 0, e) C f' r' e c4 lt he mx ⟨WE_0 hin (cls_D cd), Or.inr (Or.inr (Or.inl ⟨hin, cl, cd, w2', Or.inr ⟨(show 5 < e - i by omega), rfl, rfl⟩⟩))⟩ (by show (1 : Nat) ≠ 0; omega) rfl
        | false =>
          have ee : e = i := WE_un w2' (WE_0 hin cd)
          rw [if_neg (show ¬ (false = true) by decide), if_pos rfl]
          have mx : (if nI i + 1 < nI e then nI e else nI i + 1) = nI (i + 1) := by
            rw [nI_1, if_neg (by rw [lt_i, nI_toInt (by omega), nI_toInt (by omega)]; omega)]
          cases cb : isB (tb i) with
          | true =>
            rw [if_neg (by decide)]
            obtain ⟨T', ts', f2, r2, g1, g2, g3⟩ := ih (i + 1) fu T ts f r (by omega) (by omega) (by omega) (by omega) h
            refine ⟨T', ts', f2, r2, ?_, g2, ?_⟩
            · unfold f_X10_split_112
              simp only [max_s, mx, Option.bind_some]
              exact g1
            · cases ts' with
              | nil => exact g3.elim
              | cons t ts' => exact ⟨g3.1.bl cb, g3.2⟩
          | false =>
            rw [if_neg (show ¬ (false = true) by decide), if_pos rfl, n1]
            obtain ⟨B, C, f', r', c1, c2, c3, c4⟩ := X_app h (by omega) hc hs (sgn (tb i), i, 0, i + 1)
            rw [nI_0] at c1
            simp only [Option.bind_some, cA.2.2.2.1, rcv_s n3, c1, c2, c3]
            exact go (sgn (tb i), i, 0, i + 1) C f' r' (i + 1) c4 (by omega) (by omega) mx ⟨WE_0 hin cb, Or.inr (Or.inr (Or.inr ⟨hin, cl, cd, rfl, rfl, rfl⟩))⟩ (sgn_pos _).1 rfl
    · exact ih i fu T ts f r (by omega) e2 (by omega) e4 h
end Split
