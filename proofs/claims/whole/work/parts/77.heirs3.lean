/-! HEIRS and SHARE -/
theorem P3.pm {xb z : Nat} (h : P3 xb z) : Pm xb z := by
  unfold P3 at h
  unfold Pm
  omega
/-- what the reference works in here is spoken of nowhere -/
theorem JJ.p3 {S S2 : St} {xb k : Nat} (h : JJ S xb (k + 1)) (w : SW (P3 xb) S S2) : JJ S2 xb k := by
  obtain ⟨⟨g, j⟩, -⟩ := id h
  have m := j.1.2.2.2.1
  have e : ∀ o, o < 46 ∨ 48 < o → Mi S2 (xb + 22) o = Mi S (xb + 22) o ∧ Ml S2 (xb + 22) o = Ml S (xb + 22) o := fun o ho => w.2.2.2 (xb + 22 + o) (by unfold P3; omega)
  refine h.same j ((w.mono (fun _ => P3.pm)).fm m) w.mr w.nx w.sl ⟨fun o ho => (e o ?_).1, fun f _ => congrFun (e 0 (by omega)).1 f⟩ ⟨(e 42 (by omega)).2, (e 54 (by omega)).2, (e 55 (by omega)).2⟩
  revert o
  decide
theorem lN_pos {n : Nat} (h : n < 2 ^ 31) : (lg_cmp (lN n) 0 ≤ 0) ↔ n = 0 := by
  have h1 : (lg_cmp (lN n) 0 ≤ 0) ↔ ¬ (0 : Int32) < lg_cmp (lN n) 0 := by
    rw [Int32.not_lt]
  rw [h1, cmp_gt, show (0 : Int64) = lN 0 from rfl, lN_lt (by omega) h]
  omega
section Hof
variable {xb np p : Nat} {M : MI} {H : Nat → Bool}
theorem M_hf9 (hn : np ≤ 24) {T : St} (m : MOK T (xb + 22)) (h2 : mi T (xb + 22) 2 = nI np) (hv : ∀ c, c < np → ml T (xb + 22 + 47) c = if 0 < prt M H np p c then 1 else 0) : ∀ (n t fu : Nat), t + n = np → n < fu → f_X12_heirsOf_9 fu T (xb + 22) (nI (cntB (fun q => decide (0 < prt M H np p q)) t)) (nI t) = some (nI (cntB (fun q => decide (0 < prt M H np p q)) np), T) := by
  intro n
  induction n with
  | zero =>
    intro t fu h1 h3
    obtain ⟨fu, rfl⟩ : ∃ k, fu = k + 1 := ⟨fu - 1, by omega⟩
    unfold f_X12_heirsOf_9
    simp only [mI m, h2, Option.bind_some]
    rw [if_pos (nI_le (by omega) (by omega)), show t = np by omega]
  | succ n ih =>
    intro t fu h1 h3
    obtain ⟨fu, rfl⟩ : ∃ k, fu = k + 1 := ⟨fu - 1, by omega⟩
    have ht : t < np := by omega
    have ht24 : t < 24 := by omega
    have hs : cntB (fun q => decide (0 < prt M H np p q)) (t + 1) = cntB (fun q => decide (0 < prt M H np p q)) t + (if decide (0 < prt M H np p t) then 1 else 0) := rfl
    unfold f_X12_heirsOf_9
    simp only [mI m, h2, Option.bind_some]
    rw [if_neg (nI_ge (by omega) (by omega))]
    simp only [mR_above m, mL_above m ht24, hv t ht, Option.bind_some, nI_1]
    by_cases c : 0 < prt M H np p t
    · rw [if_pos c, if_neg (by decide)]
      rw [if_pos (by simpa using c)] at hs
      rw [← hs]
      exact ih (t + 1) fu (by omega) (by omega)
    · rw [if_neg c, if_pos (by decide), Int32.add_zero]
      rw [if_neg (by simpa using c)] at hs
      have hs' : cntB (fun q => decide (0 < prt M H np p q)) (t + 1) = cntB (fun q => decide (0 < prt M H np p q)) t := hs
      rw [← hs']
      exact ih (t + 1) fu (by omega) (by omega)
theorem M_heirsOf {T : St} (hp : PAR M np) (hn : np ≤ 24) (hH : HL M np H) (hpn : p < np) (m : MOK T (xb + 22)) (h2 : mi T (xb + 22) 2 = nI np) (hr : ∀ c, c < np → mi T (xb + 22 + 8) c = M 8 c ∧ mi T (xb + 22 + 9) c = M 9 c) : ∃ T', f_X12_heirsOf T (xb + 22) (nI p) = some (nI (cntB (fun q => decide (0 < prt M H np p q)) np), T') ∧ SW (P3 xb) T T' := by
  obtain ⟨A, a1, a2, a3⟩ := M_shares (p := p) hp hn hH hpn m h2 hr
  have g := M_hf9 (M := M) (H := H) (p := p) hn (m.sw a2) (by rw [(a2.2.2.2 (xb + 22) (by unfold P3; omega)).1]; exact h2) (fun c hc => (a3 c hc).1) np 0 FU (by omega) (by unfold FU; omega)
  rw [show cntB (fun q => decide (0 < prt M H np p q)) 0 = 0 from rfl, nI_0] at g
  refine ⟨A, ?_, a2⟩
  unfold f_X12_heirsOf
  rw [mV m]
  simp only [Option.bind_some]
  rw [a1]
  simp only [Option.bind_some]
  rw [g]
end Hof
theorem op_heirs {S : St} {xb k : Nat} (h : JJ S xb (k + 1)) (p : Int32) : ∃ r, f_X11_heirs S xb p = some r ∧ ∃ S2, f_X12_heirs S (xb + 22) p = some (r, S2) ∧ JJ S2 xb k := by
  obtain ⟨⟨g', j⟩, rm1, rm2⟩ := id h
  obtain ⟨nf, fa, np, pa, na, aa, ne, ea, il, nc, ca, rfl, b, c0, ct, cy, cf, cp, cn, ca', ce, cc, cl⟩ := j.op
  have x := b.2.2.1
  have m := b.2.2.2.1
  have p1 : mi S (xb + 22) 2 = nI np := cp.1
  have n24 := cp.2.1
  obtain ⟨H, hH, hl⟩ := cn
  rcases ixc p (n := np) (by omega) with ⟨i, hi, rfl⟩ | c1
  · have oi := cp.2.2.2 i hi
    have hk := oi.1
    have hi24 : i < 24 := by omega
    have e6 : mi S (pa i) 6 = Mi S (xb + 22) 9 i := oi.2.2.2.2.2.2.2.1
    have e9 : mi S (xb + 22 + 9) i = Mi S (xb + 22) 9 i := rfl
    unfold f_X11_heirs f_X12_heirs
    simp only [xV x, mV m, X_personAt x cp.2.2.1 hk hi, M_isPerson m p1 (by omega) hi, Option.bind_some, if_neg (show ¬ (some (pa i) = none) by simp), rcv_s hk, X_lives hk, e6, i01, mR_died m, mL_died m hi24, e9]
    rw [if_neg (show ¬ ((1 : Int32) = 0) by decide)]
    by_cases d : Mi S (xb + 22) 9 i = -1
    · rw [if_neg (fun q => q d), if_pos d]
      exact ⟨_, rfl, S, rfl, h.le⟩
    · rw [if_pos d, if_neg d]
      obtain ⟨A, a1, a2⟩ := M_heirsOf (p := i) cp.par n24 hH hi m p1 (fun c hc => ⟨rfl, rfl⟩)
      rw [a1]
      have g := X_cntHeirs x cp hH hl hi d np 0 FU (by omega) (by unfold FU; omega)
      rw [show cntB (fun q => decide (0 < prt (Mi S (xb + 22)) H np i q)) 0 = 0 from rfl, nI_0] at g
      unfold f_X11_countHeirs
      rw [g]
      simp only [Option.bind_some]
      exact ⟨_, rfl, A, rfl, h.p3 a2⟩
  · refine ⟨-1, ?_, S, ?_, h.le⟩
    · unfold f_X11_heirs
      simp only [xV x, X_personAt_n x cp.2.2.1 c1, Option.bind_some, if_true]
    · unfold f_X12_heirs
      simp only [mV m, M_isPerson_n m p1 (by omega) c1, Option.bind_some, if_true]
