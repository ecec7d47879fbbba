/-! all proof lines of the class -/
section XLoop
variable {xb la : Nat} {V : Nat → Int32} {PL : List PLn}
theorem cl_at {i : Nat} (h : i < PL.length) : PL.flatMap cLine = (PL.take i).flatMap cLine ++ (cLine (PL.getD i ([], [])) ++ (PL.drop (i + 1)).flatMap cLine) := by
  have e : PL = PL.take i ++ (PL.getD i ([], []) :: PL.drop (i + 1)) := by
    rw [List.getD_eq_getElem?_getD, List.getElem?_eq_getElem h]
    simp
  conv => lhs; rw [e]
  rw [List.flatMap_append]
  rfl
theorem cl_tk {i : Nat} (h : i < PL.length) : ((PL.take (i + 1)).flatMap cLine).length = ((PL.take i).flatMap cLine).length + (cLine (PL.getD i ([], []))).length := by
  have e : PL.take (i + 1) = PL.take i ++ [PL.getD i ([], [])] := by
    rw [List.getD_eq_getElem?_getD, List.getElem?_eq_getElem h]
    simp
  rw [e, List.flatMap_append, List.length_append]
  show _ + (cLine (PL.getD i ([], [])) ++ []).length = _
  rw [List.append_nil]
theorem X_loop (n1 : ¬ PX xb la) (n2 : ¬ PX xb (la + 2)) (hW : ∀ q ∈ PL, PW q) : ∀ (n i fu : Nat) (T : St), i + n = PL.length → (PL.flatMap cLine).length < fu + ((PL.take i).flatMap cLine).length → XOK T xb → XC T la (PL.flatMap cLine) → PS T xb [] → (∀ k, 1 ≤ k → k ≤ 4 → mi T (xb + 10) (k - 1) = V k) → mi T (xb + 10) 6 = lnsV V PL i → ∃ T', f_X9_greatest_12 fu T (xb + 10) (some la) (nI ((PL.take i).flatMap cLine).length) = some (lnsV V PL PL.length, T') ∧ SW (PX xb) T T' := by
  intro n
  induction n with
  | zero =>
    intro i fu T h1 h3 x h ps hV h6
    have ei : i = PL.length := by omega
    subst ei
    rw [List.take_length] at h3 ⊢
    obtain ⟨fu, rfl⟩ : ∃ k, fu = k + 1 := ⟨fu - 1, by omega⟩
    obtain ⟨a1, a2, a3, a4, a5, a6, a7⟩ := h
    rw [f_X9_greatest_12]
    unfold f_X6_codeLength
    simp only [rcv_s a1, getI_s a1, a4, Option.bind_some, getI_s (xK_scale x), h6]
    rw [if_pos (nI_le (by omega) (by omega))]
    exact ⟨T, rfl, SW.rf _ _⟩
  | succ n ih =>
    intro i fu T h1 h3 x h ps hV h6
    have hi : i < PL.length := by omega
    have hat := cl_at hi
    have htk := cl_tk hi
    obtain ⟨q, hq⟩ : ∃ q, q = PL.getD i ([], []) := ⟨_, rfl⟩
    rw [← hq] at hat htk
    have hm : q ∈ PL := by
      rw [hq, List.getD_eq_getElem?_getD, List.getElem?_eq_getElem hi]
      exact List.getElem_mem hi
    have tot : ((PL.take i).flatMap cLine).length + (cLine q).length ≤ (PL.flatMap cLine).length := by
      rw [hat]
      simp only [List.length_append]
      omega
    obtain ⟨f, rfl⟩ : ∃ f, fu = f + (cLine q).length := ⟨fu - (cLine q).length, by omega⟩
    obtain ⟨A, a1, a2, a3, a4, a5⟩ := X_line (fu := f) (V := V) n1 n2 (hW q hm) x h ps hV tot (fun k hk => by rw [hat, getD_r, getD_l _ _ _ hk])
    obtain ⟨B, b1, b2⟩ := ih (i + 1) f A (by omega) (by omega) (x.sw a2) (h.sw a2 n1 n2) a3 (fun k h1 h4 => by rw [a5 (k - 1) (by omega)]; exact hV k h1 h4) (by
      rw [a4, h6, hq]
      rfl)
    rw [htk] at b1
    exact ⟨B, by rw [a1]; exact b1, a2.tr b2⟩
end XLoop
