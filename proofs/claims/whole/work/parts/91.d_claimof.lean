section Clm
variable {S U : St} {xb nf np na ne nc c : Nat} {M M' : MI} {L L' : ML} {fa pa aa ea ca : Nat → Nat} {il : Nat → List Nat}
/-- what a claim is about -/
theorem clm (j : JX S xb M L ((nf, fa), (np, pa), (na, aa), (ne, ea, il), (nc, ca))) (hc : c < nc) : ∃ (H : Nat → Bool) (a p q s : Nat) (v : Int32), HL M np H ∧ (∀ q, q < np → mi S (pa q) 7 = nI (lcn M np H q)) ∧ a < na ∧ p < np ∧ q < np ∧ s < 4 ∧ M 12 a = nI p ∧ M 49 c = nI q ∧ M 50 c = nI a ∧ M 39 a = nI s ∧ mr S (ca c) 0 = some (pa q) ∧ mr S (ca c) 1 = some (aa a) ∧ mr S (aa a) 3 = some (pa p) ∧ (∃ T, f_X11_pointsAsked S xb (some (aa a)) = some (v, T) ∧ SW (PX xb) S T) ∧ (∀ T, MOK T (xb + 22) → (∀ o, o < 60 → Mi T (xb + 22) o = M o) → ml T (xb + 22 + 42) a = L 42 a → ∃ T', f_X12_asked T (xb + 22) (nI a) = some (v, T') ∧ SW (PA xb) T T') ∧ (∃ T, f_X11_isGood S xb (some (ca c)) = some (if v ≤ M 51 c ∧ 0 < prts M H np p q then 1 else 0, T) ∧ SW (PX xb) S T) ∧ ∀ T, MOK T (xb + 22) → (∀ o, o < 60 → Mi T (xb + 22) o = M o) → ml T (xb + 22 + 42) a = L 42 a → ∃ T', f_X12_isGood T (xb + 22) (nI c) = some (if v ≤ M 51 c ∧ 0 < prts M H np p q then 1 else 0, T') ∧ SW (PA xb) T T' := by
  obtain ⟨b, c0, ct, cy, cf, cp, cn, ca', ce, cc, cl⟩ := j.un
  obtain ⟨H, hH, hl⟩ := cn
  obtain ⟨kc, -, ⟨q, q1, q2, q3⟩, ⟨a, a1, a2, a3, a4⟩, e2, -⟩ := cc.2.2.2.1 c hc
  obtain ⟨k1, -, -, -, -, -, ⟨p, p1, p2, p3⟩, -, -, -, -, -, e8⟩ := ca'.2.2.2 a a1
  obtain ⟨⟨s, s1, s2⟩, -⟩ := e8.resolve_left (fun z => a4 z.1)
  obtain ⟨la, l1, l2⟩ := cl s s1
  obtain ⟨PL, w1, w2, w3⟩ := l2.2.2.2.2.2.2.2.2.2.2.2.2.2.2.2.xc l2.1 l2.2.2.2.2.2.2.2.2.2.2.2.2.2.1 l2.2.2.2.2.2.2.2.2.2.2.2.2.2.2.1
  have a40 : a < 40 := by have := ca'.2.1; omega
  have c60 : c < 60 := by have := cc.2.1; omega
  have xA := X_pAsked (p := p) j hH hl a1 p1 p3 s1 s2 l1 l2.2.1 w1 w3
  have mA : ∀ T, MOK T (xb + 22) → (∀ o, o < 60 → Mi T (xb + 22) o = M o) → ml T (xb + 22 + 42) a = L 42 a → ∃ T', f_X12_asked T (xb + 22) (nI a) = some (lnsV (askV M L H np a p) PL PL.length, T') ∧ SW (PA xb) T T' := fun T mT hT h42 => M_asked mT hT h42 cp.par cp.2.1 hH cp.1 a40 p1 p2 s1 s2 w2 w1
  obtain ⟨v, hv⟩ : ∃ v, v = lnsV (askV M L H np a p) PL PL.length := ⟨_, rfl⟩
  rw [← hv] at xA mA
  refine ⟨H, a, p, q, s, v, hH, hl, a1, p1, q1, s1, p2, q2, a2, s2, q3, a3, p3, xA, mA, ?_, fun T mT hT h42 => ?_⟩
  · exact X_isGood b.2.2.1 (X_partsOf cp hH hl p1 q1 kc q3 a3 k1 p3) (prts_le cp.par cp.2.1 q1) kc a3 e2 xA
  · exact M_isGood mT hT cp.par cp.2.1 hH cp.1 a40 c60 p1 q1 p2 q2 a2 (mA T mT hT h42)
/-- a claim's state and sums are written -/
theorem JX.cst (j : JX S xb M L ((nf, fa), (np, pa), (na, aa), (ne, ea, il), (nc, ca))) (hc : c < nc) (w : SW (fun z => z = ca c) S U) (hm : ∀ o, o ≠ 53 → M' o = M o) (h53 : ∀ z, z ≠ c → M' 53 z = M 53 z) (hl : ∀ o, o ≠ 54 → o ≠ 55 → L' o = L o) (h54 : ∀ z, z ≠ c → L' 54 z = L 54 z) (h55 : ∀ z, z ≠ c → L' 55 z = L 55 z) (v4 : mi U (ca c) 4 = M' 53 c) (v5 : ml U (ca c) 5 = L' 54 c) (v6 : ml U (ca c) 6 = L' 55 c) (v2 : mi U (ca c) 2 = mi S (ca c) 2) (v3 : mi U (ca c) 3 = mi S (ca c) 3) : JX U xb M' L' ((nf, fa), (np, pa), (na, aa), (ne, ea, il), (nc, ca)) := by
  obtain ⟨b, c0, ct, cy, cf, cp, cn, ca', ce, cc, cl⟩ := j.un
  have kc : kd S (ca c) = 3 := (cc.2.2.2.1 c hc).1
  have hP : ∀ z, z = ca c → kd S z = 3 := fun z e => by rw [e]; exact kc
  have F : Fr (fun z => z = ca c) S U := w.fr (fun z e => by rw [hP z e]; omega)
  have bU : BS U xb := b.fr F (fun a _ => by rw [w.mr]) (fun a ha => by rw [w.kd]; have := b.1 a ha; omega)
  have lo := (cc.2.2.2.1 c hc).2.1
  have ex : mi U xb = mi S xb := (w.2.2.2 xb (by omega)).1
  refine JX.mk bU (c0.gk b F hP (by decide) ⟨by rw [hm 0 (by omega)], by rw [hm 0 (by omega)], by rw [hm 0 (by omega)]⟩) (ct.gk b F hP (by decide) (by rw [ex]) (by rw [hm 0 (by omega)]) (hm 36 (by omega))) (cy.gk b F hP (by decide) (hm 57 (by omega))) (cf.gk b F hP (by decide) (by rw [hm 0 (by omega)]) (hm 1 (by omega)) (hm 2 (by omega)) (hm 3 (by omega)) (hm 56 (by omega))) (cp.gk b F hP (by decide) (by rw [hm 0 (by omega)]) (hm 4 (by omega)) (hm 5 (by omega)) (hm 6 (by omega)) (hm 7 (by omega)) (hm 8 (by omega)) (hm 9 (by omega))) (cn.gk cp b F hP (by decide) (hm 8 (by omega)) (hm 9 (by omega))) (ca'.gk b F hP (by decide) (by rw [hm 0 (by omega)]) (by rw [hm 0 (by omega)]; exact Int.le_refl _) (hm 10 (by omega)) (hm 11 (by omega)) (hm 12 (by omega)) (hm 13 (by omega)) (hm 39 (by omega)) (hm 40 (by omega)) (hm 41 (by omega)) (hl 42 (by omega) (by omega))) (ce.gk b F hP (by decide) (by rw [ex]) (fun _ _ => Or.inl (by decide)) (by rw [hm 0 (by omega)]) (hm 14 (by omega)) (hm 15 (by omega)) (hm 16 (by omega)) (hm 17 (by omega)) (hm 18 (by omega)) (hm 19 (by omega))) ?_ (cl.gk b F hP (by decide) (hm 20 (by omega)) (hm 21 (by omega)) (hm 22 (by omega)) (hm 23 (by omega)) (hm 24 (by omega)) (hm 25 (by omega)) (hm 26 (by omega)) (hm 27 (by omega)) (hm 28 (by omega)) (hm 29 (by omega)))
  obtain ⟨q1, q2, q3, q4, q5⟩ := cc
  refine ⟨by rw [hm 0 (by omega)]; exact q1, q2, q3.gk b.1 F hP (by decide), fun z hz => ?_, fun z z1 z2 => by rw [h53 z (by omega), h54 z (by omega), h55 z (by omega)]; exact q5 z z1 z2⟩
  by_cases ez : z = c
  · obtain ⟨t1, t2, t3, t4, t5, t6, t7, t8, t9, t10, t11, t12⟩ := q4 z hz
    rw [ez] at *
    unfold KO
    rw [w.kd, w.mr, v2, v3, v4, v5, v6, hm 39 (by omega), hm 49 (by omega), hm 50 (by omega), hm 51 (by omega), hm 52 (by omega)]
    exact ⟨t1, t2, t3, t4, t5, t6, t7, t8, rfl, rfl, rfl, t12⟩
  · have hne : ca z ≠ ca c := by
      rcases Nat.lt_or_gt_of_ne ez with e | e
      · exact (q4 c hc).2.2.2.2.2.2.2.2.2.2.2 z e
      · exact fun y => (q4 z hz).2.2.2.2.2.2.2.2.2.2.2 c e y.symm
    have o2 : KO U xb M L np pa na aa ca z := (q4 z hz).go b.1 F hne (fun _ _ y => y) rfl rfl rfl rfl rfl rfl rfl
    unfold KO at o2 ⊢
    rw [hm 39 (by omega), hm 49 (by omega), hm 50 (by omega), hm 51 (by omega), hm 52 (by omega), h53 z ez, h54 z ez, h55 z ez]
    exact o2
end Clm
def PC (xb z : Nat) : Prop := z = xb + 22 + 53 ∨ z = xb + 22 + 54 ∨ z = xb + 22 + 55
theorem JJ.cst {S T S1 A S2 : St} {xb k nf np na ne nc c : Nat} {fa pa aa ea ca : Nat → Nat} {il : Nat → List Nat} (h : JJ S xb (k + 1)) (j : JX S xb (Mi S (xb + 22)) (Ml S (xb + 22)) ((nf, fa), (np, pa), (na, aa), (ne, ea, il), (nc, ca))) (hc : c < nc) (w : SW (PX xb) S T) (w1 : SW (fun z => z = ca c) T S1) (wA : SW (PA xb) S1 A) (w2 : SW (PC xb) A S2) (r53 : mi S1 (ca c) 4 = mi S2 (xb + 22 + 53) c) (r54 : ml S1 (ca c) 5 = ml S2 (xb + 22 + 54) c) (r55 : ml S1 (ca c) 6 = ml S2 (xb + 22 + 55) c) (o53 : ∀ z, z ≠ c → mi S2 (xb + 22 + 53) z = mi A (xb + 22 + 53) z) (o54 : ∀ z, z ≠ c → ml S2 (xb + 22 + 54) z = ml A (xb + 22 + 54) z) (o55 : ∀ z, z ≠ c → ml S2 (xb + 22 + 55) z = ml A (xb + 22 + 55) z) (v2 : mi S1 (ca c) 2 = mi T (ca c) 2) (v3 : mi S1 (ca c) 3 = mi T (ca c) 3) : JJ S2 xb k := by
  have lo := (j.un.2.2.2.2.2.2.2.2.2.1.2.2.2.1 c hc).2.1
  have eT := fun o => PX_m w o
  have e1 : ∀ o, o < 60 → Mi S1 (xb + 22) o = Mi S (xb + 22) o ∧ Ml S1 (xb + 22) o = Ml S (xb + 22) o := fun o ho => by
    have y := w1.2.2.2 (xb + 22 + o) (by omega)
    exact ⟨y.1.trans (eT o).1, y.2.trans (eT o).2⟩
  have eA : ∀ o, o < 37 ∨ 38 < o ∧ o < 46 ∨ 48 < o ∧ o < 60 → Mi A (xb + 22) o = Mi S (xb + 22) o ∧ Ml A (xb + 22) o = Ml S (xb + 22) o := fun o ho => by
    have y := wA.2.2.2 (xb + 22 + o) (by unfold PA P3; omega)
    have y2 := e1 o (by omega)
    exact ⟨y.1.trans y2.1, y.2.trans y2.2⟩
  have e2 : ∀ o, o < 37 ∨ 38 < o ∧ o < 46 ∨ 48 < o ∧ o < 53 ∨ 55 < o ∧ o < 60 → Mi S2 (xb + 22) o = Mi S (xb + 22) o ∧ Ml S2 (xb + 22) o = Ml S (xb + 22) o := fun o ho => by
    have y := w2.2.2.2 (xb + 22 + o) (by unfold PC; omega)
    have y2 := eA o (by omega)
    exact ⟨y.1.trans y2.1, y.2.trans y2.2⟩
  obtain ⟨M', hM'⟩ : ∃ M' : MI, M' = fun o => if o = 53 then Mi S2 (xb + 22) 53 else Mi S (xb + 22) o := ⟨_, rfl⟩
  obtain ⟨L', hL'⟩ : ∃ L' : ML, L' = fun o => if o = 54 ∨ o = 55 then Ml S2 (xb + 22) o else Ml S (xb + 22) o := ⟨_, rfl⟩
  have m53 : M' 53 = Mi S2 (xb + 22) 53 := by rw [hM']; rfl
  have mo : ∀ o, o ≠ 53 → M' o = Mi S (xb + 22) o := fun o ho => by rw [hM']; exact if_neg ho
  have l54 : L' 54 = Ml S2 (xb + 22) 54 := by rw [hL']; rfl
  have l55 : L' 55 = Ml S2 (xb + 22) 55 := by rw [hL']; rfl
  have lo' : ∀ o, o ≠ 54 → o ≠ 55 → L' o = Ml S (xb + 22) o := fun o h1 h2 => by rw [hL']; exact if_neg (by omega)
  have jT := j.px w
  have j1 : JX S1 xb M' L' ((nf, fa), (np, pa), (na, aa), (ne, ea, il), (nc, ca)) := jT.cst hc w1 mo (fun z hz => by rw [m53]; exact (o53 z hz).trans (congrFun (eA 53 (by omega)).1 z)) lo' (fun z hz => by rw [l54]; exact (o54 z hz).trans (congrFun (eA 54 (by omega)).2 z)) (fun z hz => by rw [l55]; exact (o55 z hz).trans (congrFun (eA 55 (by omega)).2 z)) (by rw [m53]; exact r53) (by rw [l54]; exact r54) (by rw [l55]; exact r55) v2 v3
  have m1 := j1.1.2.2.2.1
  have wS : SW (Pm xb) S1 S2 := (wA.mono (fun _ => PA.pm)).tr (w2.mono (fun z hz => by unfold PC at hz; unfold Pm; omega))
  refine h.fin j1 (w1.cap.trans w.cap) (by rw [w1.nx, w.nx]; omega) (by rw [w1.sl, w.sl]; omega) (wS.fm m1) wS.mr wS.nx wS.sl ⟨fun o ho => ?_, fun f _ => ?_⟩ ⟨?_, l54.symm, l55.symm⟩
  · by_cases e : o = 53
    · rw [e]; exact m53.symm
    · rw [mo o e]
      refine (e2 o ?_).1
      revert e ho
      revert o
      decide
  · rw [mo 0 (by omega)]
    exact congrFun (e2 0 (by omega)).1 f
  · rw [lo' 42 (by omega) (by omega)]
    exact (e2 42 (by omega)).2
theorem M_clm {S : St} {mb n i : Nat} (m : MOK S mb) (h : mi S mb 69 = nI n) (hn : n < 1000) (hi : i < n) : f_X12_isIn S (nI i) 0 (mi S mb 69 - 1) = some 1 := by
  have z : (0 : Int32).toInt = 0 := rfl
  rw [h, M_isIn, z, nIm1 (show n < 2 ^ 31 by omega), nI_toInt (show i < 2 ^ 31 by omega)]
  rw [if_pos (by omega)]
theorem M_clm_n {S : St} {mb n : Nat} {d : Int32} (m : MOK S mb) (h : mi S mb 69 = nI n) (hn : n < 1000) (hd : ¬ (0 ≤ d.toInt ∧ d.toInt < n)) : f_X12_isIn S d 0 (mi S mb 69 - 1) = some 0 := by
  have z : (0 : Int32).toInt = 0 := rfl
  rw [h, M_isIn, z, nIm1 (show n < 2 ^ 31 by omega)]
  rw [if_neg (by omega)]
