/-! the reference's way through the proof lines -/
theorem getD_l {α : Type} (a c : List α) (d : α) {k : Nat} (h : k < a.length) : (a ++ c).getD k d = a.getD k d := by
  rw [List.getD_eq_getElem?_getD, List.getD_eq_getElem?_getD, List.getElem?_append_left h]
theorem getD_r {α : Type} (a c : List α) (d : α) (k : Nat) : (a ++ c).getD (a.length + k) d = c.getD k d := by
  rw [List.getD_eq_getElem?_getD, List.getD_eq_getElem?_getD, List.getElem?_append_right (by omega), Nat.add_sub_cancel_left]
theorem allS_app (a c : List PLn) : allS (a ++ c) = allS a ++ allS c := by
  unfold allS
  rw [List.flatMap_append]
theorem allS_at {PL : List PLn} {i : Nat} (h : i < PL.length) : allS PL = allS (PL.take i) ++ ((PL.getD i ([], [])).1 ++ ((PL.getD i ([], [])).2 ++ allS (PL.drop (i + 1)))) := by
  have e : PL = PL.take i ++ (PL.getD i ([], []) :: PL.drop (i + 1)) := by
    rw [List.getD_eq_getElem?_getD, List.getElem?_eq_getElem h]
    simp
  conv => lhs; rw [e]
  rw [allS_app]
  show allS (PL.take i) ++ ((PL.getD i ([], [])).1 ++ (PL.getD i ([], [])).2 ++ allS (PL.drop (i + 1))) = _
  rw [List.append_assoc]
theorem allS_tk {PL : List PLn} {i : Nat} (h : i < PL.length) : (allS (PL.take (i + 1))).length = (allS (PL.take i)).length + (PL.getD i ([], [])).1.length + (PL.getD i ([], [])).2.length := by
  have e : PL.take (i + 1) = PL.take i ++ [PL.getD i ([], [])] := by
    rw [List.getD_eq_getElem?_getD, List.getElem?_eq_getElem h]
    simp
  rw [e, allS_app, List.length_append, Nat.add_assoc]
  show _ + ((PL.getD i ([], [])).1 ++ (PL.getD i ([], [])).2 ++ []).length = _
  rw [List.append_nil, List.length_append]
/-- what a line comes to, of what was greatest before -/
def lnV (V : Nat → Int32) (q : PLn) (g : Int32) : Int32 := if q.2 = [] ∨ evs V q.2 [] = [1] then (if (evs V q.1 []).headD 0 ≤ g then g else (evs V q.1 []).headD 0) else g
def lnsV (V : Nat → Int32) (PL : List PLn) : Nat → Int32
  | 0 => 0
  | i + 1 => lnV V (PL.getD i ([], [])) (lnsV V PL i)
section Asked
variable {mb s : Nat} {V : Nat → Int32} {M : MI} {PL : List PLn}
/-- the step rows hold this list from f on -/
theorem M_comes {T : St} (hs : s < 4) {r : List Sps} {f : Nat} {b : Bool} (hf : f + r.length ≤ 610) (hy : tyD 32 r [] = some [b]) (m : MOK T mb) (h29 : ∀ i, i < r.length → mi T (mb + 29) (1220 * s + 2 * (f + i)) = nI (r.getD i (0, 0)).1 ∧ mi T (mb + 29) (1220 * s + 2 * (f + i) + 1) = (r.getD i (0, 0)).2) (h38 : ∀ k, k < 5 → 1 ≤ k → mi T (mb + 38) k = V k) : ∃ T' v, f_X12_comesTo T mb (nI s) (nI f) (nI (f + r.length)) = some (v, T') ∧ evs V r [] = [v] ∧ SW (fun z => z = mb + 37) T T' := by
  unfold f_X12_comesTo
  have g := M_c6 hs (V := V) r f FU T [] [] b (by unfold FU; omega) hf hy trivial (by simp) m h29 h38 trivial
  rw [List.length_nil, nI_0] at g
  exact g
theorem M_a112 (hs : s < 4) (hP : PM M s PL) (hW : ∀ q ∈ PL, PW q) : ∀ (n i fu : Nat) (T : St), i + n = PL.length → n < fu → MOK T mb → (∀ o, o ≠ 37 → o < 60 → Mi T mb o = M o) → (∀ k, k < 5 → 1 ≤ k → M 38 k = V k) → ∃ T', f_X12_asked_112 fu T mb (nI s) (lnsV V PL i) (nI i) = some (lnsV V PL PL.length, T') ∧ SW (fun z => z = mb + 37) T T' := by
  obtain ⟨p1, p2, p3, p4, p5, p6⟩ := hP
  intro n
  induction n with
  | zero =>
    intro i fu T h1 h3 m hM h38
    obtain ⟨fu, rfl⟩ : ∃ k, fu = k + 1 := ⟨fu - 1, by omega⟩
    have e26 : mi T (mb + 26) s = nI PL.length := (congrFun (hM 26 (by omega) (by omega)) s).trans p1
    unfold f_X12_asked_112
    simp only [mR_proofs m, mL_proofs m hs, e26, Option.bind_some]
    rw [if_pos (nI_le (by omega) (by omega)), show i = PL.length by omega]
    exact ⟨T, rfl, SW.rf _ _⟩
  | succ n ih =>
    intro i fu T h1 h3 m hM h38
    obtain ⟨fu, rfl⟩ : ∃ k, fu = k + 1 := ⟨fu - 1, by omega⟩
    have hi : i < PL.length := by omega
    have e26 : mi T (mb + 26) s = nI PL.length := (congrFun (hM 26 (by omega) (by omega)) s).trans p1
    obtain ⟨F, hF⟩ : ∃ F, F = (allS (PL.take i)).length := ⟨_, rfl⟩
    obtain ⟨q, hq⟩ : ∃ q, q = PL.getD i ([], []) := ⟨_, rfl⟩
    have hm : q ∈ PL := by
      rw [hq, List.getD_eq_getElem?_getD, List.getElem?_eq_getElem hi]
      exact List.getElem_mem hi
    obtain ⟨w1, w2⟩ := hW q hm
    have at' := allS_at hi
    have tk := allS_tk hi
    rw [← hq] at at' tk
    rw [← hF] at tk
    have tot : F + q.1.length + q.2.length ≤ (allS PL).length := by
      rw [at']
      simp only [List.length_append]
      omega
    obtain ⟨f1, f2⟩ := p4 i hi
    rw [← hF] at f1 f2
    rw [← hq] at f2
    have f3 : M 27 (25 * s + i + 1) = nI (F + q.1.length + q.2.length) := by
      rw [← tk]
      by_cases e : i + 1 < PL.length
      · exact (p4 (i + 1) e).1
      · rw [show 25 * s + i + 1 = 25 * s + PL.length by omega, p5, show i + 1 = PL.length by omega, List.take_length]
    have row : ∀ o x, o ≠ 37 → o < 60 → mi T (mb + o) x = M o x := fun o x h1 h2 => congrFun (hM o h1 h2) x
    have ix1 : (25 : Int32) * nI s + nI i = nI (25 * s + i) := by
      rw [show (25 : Int32) = nI 25 from rfl, pk_mul, nI_add]
    have ix2 : (24 : Int32) * nI s + nI i = nI (24 * s + i) := by
      rw [show (24 : Int32) = nI 24 from rfl, pk_mul, nI_add]
    have steps : ∀ (U : St), (∀ o, o ≠ 37 → o < 60 → Mi U mb o = M o) → ∀ (a c : List Sps) (f : Nat), (∀ k, k < a.length → (allS PL).getD (f + k) (0, 0) = a.getD k (0, 0)) → f + a.length ≤ (allS PL).length → ∀ k, k < a.length → mi U (mb + 29) (1220 * s + 2 * (f + k)) = nI (a.getD k (0, 0)).1 ∧ mi U (mb + 29) (1220 * s + 2 * (f + k) + 1) = (a.getD k (0, 0)).2 := by
      intro U hU a _ f ha hl k hk
      obtain ⟨y1, y2⟩ := p6 (f + k) (by omega)
      rw [ha k hk] at y1 y2
      exact ⟨(congrFun (hU 29 (by omega) (by omega)) _).trans y1, (congrFun (hU 29 (by omega) (by omega)) _).trans y2⟩
    have g1 : ∀ k, k < q.1.length → (allS PL).getD (F + k) (0, 0) = q.1.getD k (0, 0) := fun k hk => by
      rw [at', hF, getD_r, getD_l _ _ _ hk]
    have g2 : ∀ k, k < q.2.length → (allS PL).getD (F + q.1.length + k) (0, 0) = q.2.getD k (0, 0) := fun k hk => by
      rw [at', hF, Nat.add_assoc, getD_r, getD_r, getD_l _ _ _ hk]
    -- the line counts
    have counts : ∀ U : St, SW (fun z => z = mb + 37) T U → (q.2 = [] ∨ evs V q.2 [] = [1]) → ∃ T', f_X12_asked_176 (f_X12_asked_112 fu) U mb (nI s) (lnsV V PL i) (nI i) (nI (F + q.1.length)) = some (lnsV V PL PL.length, T') ∧ SW (fun z => z = mb + 37) T T' := by
      intro U wU hc
      have mU := m.sw wU
      have hMU : ∀ o, o ≠ 37 → o < 60 → Mi U mb o = M o := fun o h1 h2 => ((wU.2.2.2 (mb + o) (by omega)).1).trans (hM o h1 h2)
      obtain ⟨B, v, b1, b2, b3⟩ := M_comes (T := U) (V := V) hs (r := q.1) (f := F) (by omega) w1 mU (steps U hMU q.1 [] F g1 (by omega)) (fun k hk hk1 => (congrFun (hMU 38 (by omega) (by omega)) k).trans (h38 k hk hk1))
      have e27 : mi U (mb + 27) (25 * s + i) = nI F := (congrFun (hMU 27 (by omega) (by omega)) _).trans f1
      unfold f_X12_asked_176
      simp only [mR_from mU, ix1, mL_from mU (show 25 * s + i < 100 by omega), e27, mV mU, b1, Option.bind_some, nI_1]
      have hs' : lnsV V PL (i + 1) = if v ≤ lnsV V PL i then lnsV V PL i else v := by
        show lnV V (PL.getD i ([], [])) (lnsV V PL i) = _
        rw [← hq]
        unfold lnV
        rw [if_pos hc, b2]
        rfl
      obtain ⟨T', y1, y2⟩ := ih (i + 1) fu B (by omega) (by omega) (mU.sw b3) (fun o h1 h2 => ((b3.2.2.2 (mb + o) (by omega)).1).trans (hMU o h1 h2)) h38
      refine ⟨T', ?_, (wU.tr b3).tr y2⟩
      by_cases e : v ≤ lnsV V PL i
      · rw [if_pos e] at hs' ⊢
        rw [hs'] at y1
        exact y1
      · rw [if_neg e] at hs' ⊢
        rw [hs'] at y1
        exact y1
    unfold f_X12_asked_112
    simp only [mR_proofs m, mL_proofs m hs, e26, Option.bind_some]
    rw [if_neg (nI_ge (by omega) (by omega))]
    simp only [mR_when m, mR_from m, ix1, ix2, nI_1, mL_when m (show 24 * s + i < 96 by omega), mL_from m (show 25 * s + i + 1 < 100 by omega), row 28 _ (by omega) (by omega), row 27 _ (by omega) (by omega), f2, f3, Option.bind_some, mV m]
    by_cases e : q.2 = []
    · rw [if_pos (nI_le (by rw [e, List.length_nil]; omega) (by omega))]
      exact counts T (SW.rf _ _) (Or.inl e)
    · have hpos : 0 < q.2.length := List.length_pos_iff.mpr e
      have w3 := (w2.resolve_left e).1
      rw [if_neg (nI_ge (by omega) (by omega))]
      obtain ⟨B, v, b1, b2, b3⟩ := M_comes (T := T) (V := V) hs (r := q.2) (f := F + q.1.length) (by omega) w3 m (steps T hM q.2 [] (F + q.1.length) g2 (by omega)) (fun k hk hk1 => (congrFun (hM 38 (by omega) (by omega)) k).trans (h38 k hk hk1))
      rw [b1]
      simp only [Option.bind_some]
      by_cases e1 : v = 1
      · rw [if_pos e1]
        exact counts B b3 (Or.inr (by rw [b2, e1]))
      · rw [if_neg e1]
        have hs' : lnsV V PL (i + 1) = lnsV V PL i := by
          show lnV V (PL.getD i ([], [])) (lnsV V PL i) = _
          rw [← hq]
          unfold lnV
          rw [if_neg]
          rintro (z | z)
          · exact e z
          · rw [b2] at z
            exact e1 (List.cons.inj z).1
        obtain ⟨T', y1, y2⟩ := ih (i + 1) fu B (by omega) (by omega) (m.sw b3) (fun o h1 h2 => ((b3.2.2.2 (mb + o) (by omega)).1).trans (hM o h1 h2)) h38
        rw [hs'] at y1
        exact ⟨T', y1, b3.tr y2⟩
end Asked
