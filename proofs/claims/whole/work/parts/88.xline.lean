/-! one proof line of the class, whole -/
theorem nn_cons (q : Sps) (l : List Sps) : nn (q :: l) = nx1 q (nn l) := rfl
theorem nx1_c (q : Sps) (l : List Sps) : nx1 q l = q :: l ∨ ∃ w, q.1 = 12 ∧ w.1 = 12 ∧ l = w :: nx1 q l := by
  match l with
  | [] => exact Or.inl rfl
  | w :: u =>
    by_cases e : q.1 = 12 ∧ w.1 = 12
    · have z : nx1 q (w :: u) = u := if_pos e
      exact Or.inr ⟨w, e.1, e.2, by rw [z]⟩
    · exact Or.inl (if_neg e)
theorem ty12 {d : Nat} {q w : Sps} {t t1 : List Bool} (hq : q.1 = 12) (hw : w.1 = 12) (h : ty1 d q t = some t1) : ty1 d w t1 = some t := by
  rcases ty1_c h with ⟨e, -⟩ | ⟨e, -⟩ | ⟨e, -⟩ | ⟨e, -⟩ | ⟨e, -⟩ | ⟨-, u, rfl, rfl⟩ | ⟨e, -⟩
  · omega
  · omega
  · omega
  · omega
  · omega
  · obtain ⟨k, v⟩ := w
    simp only at hw
    subst hw
    rfl
  · omega
theorem ev12 {V : Nat → Int32} {d : Nat} {q w : Sps} {t t1 : List Bool} {st : List Int32} (hq : q.1 = 12) (hw : w.1 = 12) (h : ty1 d q t = some t1) (v : VT t st) : ev1 V w (ev1 V q st) = st := by
  rcases ty1_c h with ⟨e, -⟩ | ⟨e, -⟩ | ⟨e, -⟩ | ⟨e, -⟩ | ⟨e, -⟩ | ⟨-, u, rfl, rfl⟩ | ⟨e, -⟩
  · omega
  · omega
  · omega
  · omega
  · omega
  · match st, v with
    | a :: y, vv =>
      have e1 : ∀ b : Int32, ev1 V q (b :: y) = (1 - b) :: y := fun b => by
        unfold ev1
        rw [if_neg (by omega), if_neg (by omega), if_neg (by omega), if_pos hq]
      have e2 : ∀ b : Int32, ev1 V w (b :: y) = (1 - b) :: y := fun b => by
        unfold ev1
        rw [if_neg (by omega), if_neg (by omega), if_neg (by omega), if_pos hw]
      rw [e1, e2]
      rcases vv.1 rfl with rfl | rfl
      · rfl
      · rfl
  · omega
theorem nn_ty {d : Nat} : ∀ (l : List Sps) (t t' : List Bool), tyD d l t = some t' → tyD d (nn l) t = some t' := by
  intro l
  induction l with
  | nil => intro t t' h; exact h
  | cons q l ih =>
    intro t t' h
    unfold tyD at h
    obtain ⟨t1, h1, h2⟩ := Option.bind_eq_some_iff.mp h
    have h3 := ih t1 t' h2
    rw [nn_cons]
    rcases nx1_c q (nn l) with e | ⟨w, e1, e2, e3⟩
    · rw [e]
      show (ty1 d q t).bind (tyD d (nn l)) = _
      rw [h1]
      exact h3
    · rw [e3] at h3
      have h4 : (ty1 d w t1).bind (tyD d (nx1 q (nn l))) = some t' := h3
      rw [ty12 e1 e2 h1] at h4
      exact h4
theorem nn_ev {d : Nat} {V : Nat → Int32} : ∀ (l : List Sps) (t t' : List Bool) (st : List Int32), tyD d l t = some t' → VT t st → evs V (nn l) st = evs V l st := by
  intro l
  induction l with
  | nil => intro t t' st h v; rfl
  | cons q l ih =>
    intro t t' st h v
    unfold tyD at h
    obtain ⟨t1, h1, h2⟩ := Option.bind_eq_some_iff.mp h
    have h3 := ih t1 t' (ev1 V q st) h2 (ev1_vt h1 v)
    rw [nn_cons]
    rcases nx1_c q (nn l) with e | ⟨w, e1, e2, e3⟩
    · rw [e]
      exact h3
    · rw [e3] at h3
      have h4 : evs V (nx1 q (nn l)) (ev1 V w (ev1 V q st)) = evs V l (ev1 V q st) := h3
      rw [ev12 e1 e2 h1 v] at h4
      exact h4
section XLine
variable {xb la : Nat} {C : List Int32} {V : Nat → Int32}
theorem VT.one {b : Bool} {l : List Int32} (h : VT [b] l) : ∃ v, l = [v] ∧ (b = true → v = 0 ∨ v = 1) := by
  match l, h with
  | [v], w => exact ⟨v, rfl, w.1⟩
theorem X_line (n1 : ¬ PX xb la) (n2 : ¬ PX xb (la + 2)) {q : PLn} (hq : PW q) {p fu : Nat} {T : St} (x : XOK T xb) (h : XC T la C) (ps : PS T xb []) (hV : ∀ k, 1 ≤ k → k ≤ 4 → mi T (xb + 10) (k - 1) = V k) (hp : p + (cLine q).length ≤ C.length) (hc : ∀ i, i < (cLine q).length → C.getD (p + i) 0 = (cLine q).getD i 0) : ∃ T', f_X9_greatest_12 (fu + (cLine q).length) T (xb + 10) (some la) (nI p) = f_X9_greatest_12 fu T' (xb + 10) (some la) (nI (p + (cLine q).length)) ∧ SW (PX xb) T T' ∧ PS T' xb [] ∧ mi T' (xb + 10) 6 = lnV V q (mi T (xb + 10) 6) ∧ ∀ k, k < 5 → mi T' (xb + 10) k = mi T (xb + 10) k := by
  obtain ⟨w1, w2⟩ := hq
  obtain ⟨v, ev, -⟩ := (evs_vt (V := V) w1 (show VT [] [] from trivial)).one
  by_cases e : q.2 = []
  · have ec : cLine q = q.1.flatMap cStep ++ [-8] := by unfold cLine; rw [if_pos e]
    rw [ec] at hp hc ⊢
    rw [List.length_append] at hp hc ⊢
    have l1 : ([-8] : List Int32).length = 1 := rfl
    rw [l1] at hp hc ⊢
    obtain ⟨A, a1, a2, a3, a4⟩ := X_steps (V := V) n1 n2 q.1 p (fu + 1) T [] [] [false] w1 trivial (by simp) x h ps hV (by omega) (fun i hi => by rw [hc i (by omega), getD_l _ _ _ hi])
    rw [ev] at a3
    obtain ⟨B, b1, b2, b3, b4, b5⟩ := X_end8 (x.sw a2) a3 (by simp)
    refine ⟨B, ?_, a2.tr b2, b3, ?_, fun k hk => by rw [b5 k (by omega) (by omega), a4 k (by omega)]⟩
    · rw [show fu + ((q.1.flatMap cStep).length + 1) = fu + 1 + (q.1.flatMap cStep).length by omega, a1, g_end (w := 8) (x.sw a2) (h.sw a2 n1 n2) (by omega) (by
        have := hc ((q.1.flatMap cStep).length + 0) (by omega)
        rw [getD_r] at this
        exact this) (by decide), b1, Option.bind_some, Nat.add_assoc]
    · rw [b4, a4 6 (by decide)]
      unfold lnV
      rw [if_pos (Or.inl e), ev]
      rfl
  · obtain ⟨w3, w4⟩ := w2.resolve_left e
    obtain ⟨c, ec1, c01⟩ := (evs_vt (V := V) w3 (show VT [] [] from trivial)).one
    have ec : cLine q = q.1.flatMap cStep ++ ((nn q.2).flatMap cStep ++ [-9]) := by unfold cLine; rw [if_neg e]
    rw [ec] at hp hc ⊢
    rw [List.length_append, List.length_append] at hp hc ⊢
    have l1 : ([-9] : List Int32).length = 1 := rfl
    rw [l1] at hp hc ⊢
    obtain ⟨A, a1, a2, a3, a4⟩ := X_steps (V := V) n1 n2 q.1 p (fu + 1 + ((nn q.2).flatMap cStep).length) T [] [] [false] w1 trivial (by simp) x h ps hV (by omega) (fun i hi => by rw [hc i (by omega), getD_l _ _ _ hi])
    rw [ev] at a3
    obtain ⟨D, d1, d2, d3, d4⟩ := X_steps (V := V) n1 n2 (nn q.2) (p + (q.1.flatMap cStep).length) (fu + 1) A [v] [false] [true, false] (nn_ty _ _ _ w4) ⟨fun z => (by cases z), trivial⟩ (by simp) (x.sw a2) (h.sw a2 n1 n2) a3 (fun k h1 h4 => by rw [a4 (k - 1) (by omega)]; exact hV k h1 h4) (by omega) (fun i hi => by rw [Nat.add_assoc, hc ((q.1.flatMap cStep).length + i) (by omega), getD_r, getD_l _ _ _ hi])
    have eb : evs V q.2 [v] = [c, v] := by
      have := evs_base (V := V) [v] w3 (show VT [] [] from trivial)
      rw [ec1] at this
      exact this
    rw [nn_ev q.2 [false] [true, false] [v] w4 ⟨fun z => (by cases z), trivial⟩, eb] at d3
    have xD := (x.sw a2).sw d2
    obtain ⟨B, b1, b2, b3, b4, b5⟩ := X_end9 xD d3 (by simp)
    refine ⟨B, ?_, (a2.tr d2).tr b2, b3, ?_, fun k hk => by rw [b5 k (by omega) (by omega), d4 k (by omega), a4 k (by omega)]⟩
    · rw [show fu + ((q.1.flatMap cStep).length + (((nn q.2).flatMap cStep).length + 1)) = fu + 1 + ((nn q.2).flatMap cStep).length + (q.1.flatMap cStep).length by omega, a1, d1, g_end (w := 9) xD ((h.sw a2 n1 n2).sw d2 n1 n2) (by omega) (by
        have := hc ((q.1.flatMap cStep).length + (((nn q.2).flatMap cStep).length + 0)) (by omega)
        rw [getD_r, getD_r, ← Nat.add_assoc] at this
        exact this) (by decide), b1, Option.bind_some]
      rw [Nat.add_assoc, Nat.add_assoc]
    · rw [b4, d4 6 (by decide), a4 6 (by decide)]
      unfold lnV
      rw [ev, ec1]
      rcases c01 rfl with rfl | rfl
      · rw [if_pos rfl, if_neg]
        rintro (z | z)
        · exact e z
        · exact absurd (List.cons.inj z).1 (by decide)
      · rw [if_neg (by decide), if_pos (Or.inr rfl)]
        rfl
end XLine
