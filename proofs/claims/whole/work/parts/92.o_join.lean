theorem JJ.jn {S T A B : St} {xb k : Nat} (h : JJ S xb (k + 1)) (w : JF xb S T) (u : KW xb T A) (v : JW xb A B) : JJ B xb k := by
  obtain ⟨⟨g, j⟩, -⟩ := id h
  have jT := w.jx j
  have mT := jT.1.2.2.2.1
  have e : ∀ o, o ≠ 0 → o ≠ 43 → o ≠ 44 → o ≠ 45 → Mi B (xb + 22) o = Mi S (xb + 22) o ∧ Ml B (xb + 22) o = Ml S (xb + 22) o := fun o h0 h1 h2 h3 => by
    have a1 := v.1.2.2.2 (xb + 22 + o) (by unfold PQ; omega)
    have a2 := u.1.2.2.2 (xb + 22 + o) (by omega)
    have a3 := w.m o
    exact ⟨a1.1.trans (a2.1.trans a3.1), a1.2.trans (a2.2.trans a3.2)⟩
  have f : ∀ f, f ≠ 63 → f ≠ 64 → f ≠ 65 → mi B (xb + 22) f = mi S (xb + 22) f := fun f h1 h2 h3 => (v.2 f h2 h3).trans ((u.2 f h1).trans (congrFun (w.m 0).1 f))
  have sB : SW (Pm xb) T B := (u.1.mono (fun z hz => by unfold Pm; omega)).tr (v.1.mono (fun z hz => by unfold PQ at hz; unfold Pm; omega))
  refine h.fin jT w.cap (by rw [w.nx]; omega) (by rw [w.sl]; omega) (sB.fm mT) sB.mr sB.nx sB.sl ⟨fun o ho => ?_, fun z hz => ?_⟩ ⟨(e 42 (by omega) (by omega) (by omega) (by omega)).2, (e 54 (by omega) (by omega) (by omega) (by omega)).2, (e 55 (by omega) (by omega) (by omega) (by omega)).2⟩
  · have : o ≠ 0 ∧ o ≠ 43 ∧ o ≠ 44 ∧ o ≠ 45 := by
      revert o
      decide
    exact (e o this.1 this.2.1 this.2.2.1 this.2.2.2).1
  · have : z ≠ 63 ∧ z ≠ 64 ∧ z ≠ 65 := by
      revert z
      decide
    exact f z this.1 this.2.1 this.2.2
theorem M_PRo {xb np : Nat} {M : MI} {T T' : St} {l : List Nat} (m : MOK T (xb + 22)) (hM : ∀ o, 4 ≤ o → o ≤ 9 → Mi T (xb + 22) o = M o) (n24 : np ≤ 24) (hs : SI T xb l) (h8 : l.length ≤ 8) (hl : ∀ i, i < l.length → l.getD i 0 < np) (w : JW xb T T') : PRo T' xb l.length (pvS M l) (brS M l) (fun k => l.getD k 0) := by
  have mT := m.sw w.1
  have r : ∀ o, 4 ≤ o → o ≤ 9 → Mi T' (xb + 22) o = M o := fun o h1 h2 => ((w.1.2.2.2 (xb + 22 + o) (by unfold PQ; omega)).1).trans (hM o h1 h2)
  refine ⟨mT, (w.2 63 (by omega) (by omega)).trans hs.1, fun k hk => ?_, fun i k h1 h2 => ?_⟩
  · rw [(w.1.2.2.2 (xb + 22 + 43) (by unfold PQ; omega)).1]
    exact hs.2 k hk
  · have p1 := hl i (by omega)
    have p2 := hl k h2
    have eb : bard (Mi T' (xb + 22)) (l.getD i 0) (l.getD k 0) = bard M (l.getD i 0) (l.getD k 0) := by
      unfold bard
      rw [r 5 (by omega) (by omega), r 7 (by omega) (by omega), r 9 (by omega) (by omega)]
    have q1 : l.getD i 0 < 24 := by omega
    have q2 : l.getD k 0 < 24 := by omega
    refine ⟨?_, pts (Mi T' (xb + 22)) (l.getD i 0) (l.getD k 0), M_points mT q1 q2, ?_⟩
    · show f_X12_isBarred T' (xb + 22) (nI (l.getD i 0)) (nI (l.getD k 0)) = _
      rw [M_barred mT q1 q2]
      unfold brS
      by_cases c : bard M (l.getD i 0) (l.getD k 0)
      · rw [if_pos (by rw [eb]; exact c), if_pos (decide_eq_true c)]
      · rw [if_neg (by rw [eb]; exact c), if_neg (fun z => c (of_decide_eq_true z))]
    · unfold pvS pts
      rw [r 4 (by omega) (by omega), r 5 (by omega) (by omega), r 6 (by omega) (by omega), r 7 (by omega) (by omega)]
theorem op_join {S : St} {xb k : Nat} (h : JJ S xb (k + 1)) (x1 x2 : Int32) : ∃ r S1, f_X11_join S xb x1 x2 = some (r, S1) ∧ ∃ S2, f_X12_join S1 (xb + 22) x1 x2 = some (r, S2) ∧ JJ S2 xb k := by
  obtain ⟨⟨g', j⟩, rm1, rm2⟩ := id h
  obtain ⟨nf, fa, np, pa, na, aa, ne, ea, il, nc, ca, rfl, b, c0, ct, cy, cf, cp, cn, ca', ce, cc, cl⟩ := j.op
  have x := b.2.2.1
  have m := b.2.2.2.1
  have p1 : mi S (xb + 22) 2 = nI np := cp.1
  have n24 := cp.2.1
  by_cases cw : 0 ≤ x2.toInt ∧ x2.toInt ≤ 1
  · have hX : f_X11_join S xb x1 x2 = (f_X11_gather S xb x1).bind fun (v11, S11) => (if v11 = 0 then some ((-10000), S11) else (if x2 = 0 then (getR S11 (some xb) 12 13).bind fun v26 => (rcv S11 v26 6).bind fun b29 => (f_X5_greatestWorth S11 b29).bind fun v29 => some (v29, S11) else (getR S11 (some xb) 12 13).bind fun v36 => (rcv S11 v36 6).bind fun b39 => (f_X5_countBest S11 b39).bind fun v39 => some (v39, S11))) := by
      unfold f_X11_join
      rw [if_neg (by rw [lt_i]; simp only [Int32.reduceToInt]; omega), if_neg (by rw [lt_i]; simp only [Int32.reduceToInt]; omega), xV x]
      rfl
    rw [hX]
    obtain ⟨T, w, ⟨X, X0, X31, eX, hk, hg, e1⟩ | ⟨e1, hn⟩⟩ := X_gather j x1
    · rw [e1]
      simp only [Option.bind_some]
      rw [if_neg (by decide)]
      have jT := w.jx j
      have xT := jT.1.2.2.1
      have mT := jT.1.2.2.2.1
      obtain ⟨A, u, ⟨X', X0', X31', eX', hk', hs, a1⟩ | ⟨a1, hn⟩⟩ := M_isSet mT ((congrFun (w.m 0).1 2).trans p1) n24 x1
      · have : X' = X := by
          rw [eX, nI_eq (by omega) (by omega)] at eX'
          exact eX'.symm
        subst this
        obtain ⟨l, hl⟩ : ∃ l, l = pl X' np := ⟨_, rfl⟩
        rw [← hl] at hg hs
        have l8 : l.length ≤ 8 := by rw [hl]; exact hk.2
        have hln : ∀ i, i < l.length → l.getD i 0 < np := fun i hi => by rw [hl] at hi ⊢; exact pl_lt hi
        obtain ⟨hse, hwv, hbv⟩ := hg
        have mA := mT.sw u.1
        have rA : ∀ o, 4 ≤ o → o ≤ 9 → Mi A (xb + 22) o = Mi S (xb + 22) o := fun o h1 h2 => ((u.1.2.2.2 (xb + 22 + o) (by omega)).1).trans (w.m o).1
        obtain ⟨B, b1, b2, b3, b4⟩ := M_joinAll (T := A) l8 (fun T' w' => M_PRo mA rA n24 hs l8 hln w') (pvS_bd (Mi S (xb + 22)) l)
        have q := p256 l8
        have bv := hbv (2 ^ l.length - 1) (by omega)
        rw [(t4 l8).2.1] at bv
        obtain ⟨eq1, eq2⟩ := BV_un bv b3
        have hM : f_X12_join T (xb + 22) x1 x2 = (if x2 = 0 then some (mi B (xb + 22) 64, B) else some (mi B (xb + 22) 65, B)) := by
          have mB := mA.sw b2.1
          unfold f_X12_join
          simp only [mV mT, a1, Option.bind_some, M_isIn, i01, Int32.reduceToInt, mV mA, b1, mI mB]
          rw [if_neg (by decide), if_neg (fun z => z cw)]
        have l15 : ldI T (some (xb + 15)) 15 (nI (2 ^ l.length - 1)) = some (mi T (xb + 15) (2 ^ l.length - 1)) := ldI_s (xK_best xT) (xN_best xT) (by omega) (by decide)
        have l16 : ldI T (some (xb + 16)) 15 (nI (2 ^ l.length - 1)) = some (mi T (xb + 16) (2 ^ l.length - 1)) := ldI_s (xK_ways xT) (xN_ways xT) (by omega) (by decide)
        by_cases c : x2 = 0
        · rw [if_pos c] at hM ⊢
          unfold f_X5_greatestWorth
          simp only [xR_joining xT, xV_joining xT, xR_best xT, X_every xT hse.1 l8, l15, Option.bind_some]
          exact ⟨_, _, rfl, B, by rw [hM, eq1], h.jn w u b2⟩
        · rw [if_neg c] at hM ⊢
          unfold f_X5_countBest
          simp only [xR_joining xT, xV_joining xT, xR_ways xT, X_every xT hse.1 l8, l16, Option.bind_some]
          exact ⟨_, _, rfl, B, by rw [hM, eq2], h.jn w u b2⟩
      · exact absurd hk (hn X X0 X31 eX)
    · rw [e1]
      simp only [Option.bind_some, if_true]
      have jT := w.jx j
      have mT := jT.1.2.2.2.1
      obtain ⟨A, u, ⟨X', X0', X31', eX', hk', hs, a1⟩ | ⟨a1, -⟩⟩ := M_isSet mT ((congrFun (w.m 0).1 2).trans p1) n24 x1
      · exact absurd hk' (hn X' X0' X31' eX')
      · refine ⟨_, _, rfl, A, ?_, h.jn w u (JW.rf _ _)⟩
        unfold f_X12_join
        simp only [mV mT, a1, Option.bind_some, if_true]
  · obtain ⟨A, u, hA⟩ := M_isSet m p1 n24 x1
    refine ⟨-10000, S, ?_, A, ?_, h.jn (JF.rf _ _) u (JW.rf _ _)⟩
    · unfold f_X11_join
      by_cases c : x2 < 0
      · rw [if_pos c]
      · rw [if_neg c, if_pos (by rw [lt_i] at c ⊢; simp only [Int32.reduceToInt] at c ⊢; omega)]
    · unfold f_X12_join
      rcases hA with ⟨-, -, -, -, -, -, a1⟩ | ⟨a1, -⟩
      · simp only [mV m, a1, Option.bind_some, M_isIn, i01, Int32.reduceToInt]
        rw [if_neg (by decide), if_pos cw]
      · simp only [mV m, a1, Option.bind_some, if_true]
