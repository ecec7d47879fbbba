/-! the class's steps -/
section Step
variable {T A B D : St} {xb la p fu : Nat} {C : List Int32} {a c r v w : Int32}
theorem g_not (x : XOK T xb) (h : XC T la C) (hp : p < C.length) (h0 : C.getD p 0 = -16) (p1 : f_X9_pop T (xb + 10) = some (v, A)) (xA : XOK A xb) (p2 : f_X9_push A (xb + 10) (if v = 0 then 1 else 0) = some B) : f_X9_greatest_12 (fu + 1) T (xb + 10) (some la) (nI p) = f_X9_greatest_12 fu B (xb + 10) (some la) (nI (p + 1)) := by
  have hc := X_codeAt h hp
  rw [h0] at hc
  obtain ⟨a1, a2, a3, a4, a5, a6, a7⟩ := h
  rw [f_X9_greatest_12]
  unfold f_X6_codeLength f_X9_greatest_94
  simp only [rcv_s a1, getI_s a1, a4, hc, Option.bind_some, xV_scale x, nI_1, p1, xV_scale xA]
  rw [if_neg (nI_ge (by omega) (by omega)), if_pos (by decide), if_pos (by decide), if_pos (by decide), if_pos (by decide)]
  by_cases e : v = 0
  · rw [if_pos e] at p2 ⊢
    rw [p2, Option.bind_some]
  · rw [if_neg e] at p2 ⊢
    rw [p2, Option.bind_some]
theorem g_bin (x : XOK T xb) (h : XC T la C) (hp : p < C.length) (h0 : C.getD p 0 = -w) (hw : -w < 0 ∧ (9 : Int32) < w ∧ (13 : Int32) < w ∧ w ≠ 16) (p1 : f_X9_pop T (xb + 10) = some (c, A)) (xA : XOK A xb) (p2 : f_X9_pop A (xb + 10) = some (a, B)) (xB : XOK B xb) (p3 : f_X9_combined B w a c = some r) (p4 : f_X9_push B (xb + 10) r = some D) : f_X9_greatest_12 (fu + 1) T (xb + 10) (some la) (nI p) = f_X9_greatest_12 fu D (xb + 10) (some la) (nI (p + 1)) := by
  have hc := X_codeAt h hp
  rw [h0] at hc
  obtain ⟨a1, a2, a3, a4, a5, a6, a7⟩ := h
  rw [f_X9_greatest_12]
  unfold f_X6_codeLength
  simp only [rcv_s a1, getI_s a1, a4, hc, Option.bind_some, xV_scale x, nI_1, Int32.neg_neg, p1, xV_scale xA, p2, xV_scale xB, p3, p4]
  rw [if_neg (nI_ge (by omega) (by omega)), if_pos hw.1, if_pos hw.2.1, if_pos hw.2.2.1, if_neg hw.2.2.2]
/-- a step of the class's pile -/
theorem X_step {V : Nat → Int32} {q : Sps} {t t' : List Bool} {st : List Int32} (hq : ty1 32 q t = some t') (vt : VT t st) (hl : st.length ≤ 32) (x : XOK T xb) (h : XC T la C) (n1 : ¬ PX xb la) (n2 : ¬ PX xb (la + 2)) (ps : PS T xb st) (hV : ∀ k, 1 ≤ k → k ≤ 4 → mi T (xb + 10) (k - 1) = V k) (hp : p + (cStep q).length ≤ C.length) (hc : ∀ i, i < (cStep q).length → C.getD (p + i) 0 = (cStep q).getD i 0) : ∃ T', f_X9_greatest_12 (fu + (cStep q).length) T (xb + 10) (some la) (nI p) = f_X9_greatest_12 fu T' (xb + 10) (some la) (nI (p + (cStep q).length)) ∧ SW (PX xb) T T' ∧ PS T' xb (ev1 V q st) ∧ ∀ k, k ≠ 5 → mi T' (xb + 10) k = mi T (xb + 10) k := by
  have vl := vt.len
  have bin : ∀ (w : Int32) (a c : Int32) (u : List Int32), st = c :: a :: u → 5 ≤ q.1 → q.1 ≠ 8 → q.1 ≠ 12 → cStep q = [-w] → (-w < 0 ∧ (9 : Int32) < w ∧ (13 : Int32) < w ∧ w ≠ 16) → (∀ U, f_X9_combined U w a c = some (bo q.1 a c)) → ∃ T', f_X9_greatest_12 (fu + (cStep q).length) T (xb + 10) (some la) (nI p) = f_X9_greatest_12 fu T' (xb + 10) (some la) (nI (p + (cStep q).length)) ∧ SW (PX xb) T T' ∧ PS T' xb (ev1 V q st) ∧ ∀ k, k ≠ 5 → mi T' (xb + 10) k = mi T (xb + 10) k := by
    intro w a c u hst h5 h8 h12 hcs hw hcomb
    have hu : u.length + 2 ≤ 32 := by rw [hst, List.length_cons, List.length_cons] at hl; omega
    rw [hst] at ps
    rw [hcs] at hp hc
    obtain ⟨A, y1, y2, y3, y4⟩ := X_pop x ps (by rw [List.length_cons]; omega)
    obtain ⟨B, z1, z2, z3, z4⟩ := X_pop (x.sw y2) y3 (by omega)
    obtain ⟨D, u1, u2, u3, u4⟩ := X_push ((x.sw y2).sw z2) z3 (by omega) (bo q.1 a c)
    have hev : ev1 V q st = bo q.1 a c :: u := by
      unfold ev1
      rw [if_neg (by omega), if_neg (by omega), if_neg h8, if_neg h12, hst]
    refine ⟨D, ?_, (y2.tr z2).tr u2, by rw [hev]; exact u3, fun k hk => by rw [u4 k hk, z4 k hk, y4 k hk]⟩
    rw [hcs]
    exact g_bin x h (by simp only [List.length_cons, List.length_nil] at hp; omega) (hc 0 (by simp)) hw y1 (x.sw y2) z1 ((x.sw y2).sw z2) (hcomb B) u1
  have low : ∀ w : Int32, ev1 V q st = w :: st → st.length < 32 → (cStep q).length = 1 → (∀ U, f_X9_push T (xb + 10) w = some U → f_X9_greatest_12 (fu + 1) T (xb + 10) (some la) (nI p) = f_X9_greatest_12 fu U (xb + 10) (some la) (nI (p + 1))) → ∃ T', f_X9_greatest_12 (fu + (cStep q).length) T (xb + 10) (some la) (nI p) = f_X9_greatest_12 fu T' (xb + 10) (some la) (nI (p + (cStep q).length)) ∧ SW (PX xb) T T' ∧ PS T' xb (ev1 V q st) ∧ ∀ k, k ≠ 5 → mi T' (xb + 10) k = mi T (xb + 10) k := by
    intro w hev hlt hcl hg
    obtain ⟨D, u1, u2, u3, u4⟩ := X_push x ps hlt w
    exact ⟨D, by rw [hcl]; exact hg D u1, u2, by rw [hev]; exact u3, u4⟩
  obtain ⟨kk, vv⟩ := q
  rcases ty1_c hq with ⟨e, e2, e3, -⟩ | ⟨e, e2, -⟩ | ⟨e, u, rfl, -⟩ | ⟨e, u, rfl, e2, e3, -⟩ | ⟨e, u, rfl, -⟩ | ⟨e, u, rfl, -⟩ | ⟨e, u, rfl, -⟩
  · simp only at e e3
    subst e
    have c0 : C.getD p 0 = vv := hc 0 (show 0 < 1 by decide)
    refine low vv rfl (by omega) rfl (fun U hU => ?_)
    rw [g_push x h (by have : p + 1 ≤ C.length := hp; omega) (by rw [c0]; exact e3), c0, hU, Option.bind_some]
  · simp only at e
    have hk : kk = 1 ∨ kk = 2 ∨ kk = 3 ∨ kk = 4 := by omega
    have hcl : (cStep (kk, vv)).length = 1 := by rcases hk with rfl | rfl | rfl | rfl <;> rfl
    have c0 : C.getD p 0 = - nI (kk + 9) := by
      have := hc 0 (by omega)
      rw [Nat.add_zero] at this
      rw [this]
      rcases hk with rfl | rfl | rfl | rfl <;> rfl
    refine low (V kk) (by unfold ev1; rw [if_neg (by simp only; omega), if_pos (by simp only; omega)]) (by omega) hcl (fun U hU => ?_)
    rw [g_name x h (by omega) (k := kk) (by omega) (by omega) c0, hV kk (by omega) (by omega), hU, Option.bind_some]
  · simp only at e
    match st, vt with
    | c :: a :: y, _ =>
      have hk : kk = 5 ∨ kk = 6 ∨ kk = 7 := by omega
      rcases hk with rfl | rfl | rfl
      · exact bin 18 a c y rfl (by simp) (by simp) (by simp) rfl (by decide) (fun U => X_comb U a c (by simp))
      · exact bin 19 a c y rfl (by simp) (by simp) (by simp) rfl (by decide) (fun U => X_comb U a c (by simp))
      · exact bin 20 a c y rfl (by simp) (by simp) (by simp) rfl (by decide) (fun U => X_comb U a c (by simp))
  · simp only at e e3
    subst e
    match st, vt with
    | a :: y, _ =>
      have hy : y.length + 1 < 32 := by rw [List.length_cons, List.length_cons] at vl; omega
      have c0 : C.getD p 0 = vv := hc 0 (show 0 < 2 by decide)
      have c1 : C.getD (p + 1) 0 = -21 := hc 1 (show 1 < 2 by decide)
      have hpp : p + 2 ≤ C.length := hp
      obtain ⟨E, f1, f2, f3, f4⟩ := X_push x ps (by rw [List.length_cons]; omega) vv
      obtain ⟨A, y1, y2, y3, y4⟩ := X_pop (x.sw f2) f3 (by rw [List.length_cons]; omega)
      obtain ⟨B, z1, z2, z3, z4⟩ := X_pop ((x.sw f2).sw y2) y3 (by omega)
      obtain ⟨D, u1, u2, u3, u4⟩ := X_push (((x.sw f2).sw y2).sw z2) z3 (by omega) (a / vv)
      have hne : ¬ vv = 0 := fun z => by rw [z] at e3; exact absurd e3 (by decide)
      have hcb : f_X9_combined B 21 a vv = some (a / vv) := by
        unfold f_X9_combined
        rw [if_neg (by decide), if_neg (by decide), if_neg (by decide), if_neg (by decide), if_pos rfl, if_neg hne]
        unfold divI
        rw [if_neg hne, Option.bind_some]
      refine ⟨D, ?_, ((f2.tr y2).tr z2).tr u2, u3, fun k hk => by rw [u4 k hk, z4 k hk, y4 k hk, f4 k hk]⟩
      show f_X9_greatest_12 (fu + 1 + 1) T (xb + 10) (some la) (nI p) = f_X9_greatest_12 fu D (xb + 10) (some la) (nI (p + 1 + 1))
      rw [g_push x h (by omega) (by rw [c0]; exact Int32.le_of_lt e3), c0, f1, Option.bind_some]
      exact g_bin (x.sw f2) (h.sw f2 n1 n2) (by omega) c1 (by decide) y1 ((x.sw f2).sw y2) z1 (((x.sw f2).sw y2).sw z2) hcb u1
  · simp only at e
    match st, vt with
    | c :: a :: y, _ =>
      have hk : kk = 9 ∨ kk = 10 ∨ kk = 11 := by omega
      rcases hk with rfl | rfl | rfl
      · exact bin 24 a c y rfl (by simp) (by simp) (by simp) rfl (by decide) (fun U => X_comb U a c (by simp))
      · exact bin 25 a c y rfl (by simp) (by simp) (by simp) rfl (by decide) (fun U => X_comb U a c (by simp))
      · exact bin 26 a c y rfl (by simp) (by simp) (by simp) rfl (by decide) (fun U => X_comb U a c (by simp))
  · simp only at e
    subst e
    match st, vt with
    | a :: y, w =>
      have hy : y.length < 32 := by rw [List.length_cons] at hl; omega
      have c0 : C.getD p 0 = -16 := hc 0 (show 0 < 1 by decide)
      have hpp : p + 1 ≤ C.length := hp
      obtain ⟨A, y1, y2, y3, y4⟩ := X_pop x ps hy
      obtain ⟨D, u1, u2, u3, u4⟩ := X_push (x.sw y2) y3 hy (if a = 0 then 1 else 0)
      have e1 : (1 : Int32) - a = if a = 0 then 1 else 0 := by
        rcases w.1 rfl with rfl | rfl <;> decide
      refine ⟨D, g_not x h (by omega) c0 y1 (x.sw y2) u1, y2.tr u2, ?_, fun k hk => by rw [u4 k hk, y4 k hk]⟩
      show PS D xb ((1 - a) :: y)
      rw [e1]
      exact u3
  · simp only at e
    match st, vt with
    | c :: a :: y, _ =>
      have hk : kk = 13 ∨ kk = 14 := by omega
      rcases hk with rfl | rfl
      · exact bin 15 a c y rfl (by simp) (by simp) (by simp) rfl (by decide) (fun U => X_comb U a c (by simp))
      · exact bin 14 a c y rfl (by simp) (by simp) (by simp) rfl (by decide) (fun U => X_comb U a c (by simp))
end Step
