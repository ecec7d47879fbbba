theorem X_owed' {S : St} {xb a f p nf np : Nat} {M : MI} {fa pa : Nat → Nat} (cf : CF S xb M nf fa) (cp : CP S xb M np pa) (k1 : kd S a = 1) (hf : f < nf) (hp : p < np) (f3 : mr S a 1 = some (fa f)) (p3 : mr S a 3 = some (pa p)) (d : Int32) : f_X11_owedOn S (some a) d = some (if M 6 p = -1 then M 1 (fo M d 8 f) else M 6 p) := by
  unfold f_X11_owedOn
  have hfo := fo_lt cf d 8 f hf
  simp only [getR_s k1, p3, f3, Option.bind_some, getI_s (cp.2.2.2 p hp).1, (cp.2.2.2 p hp).2.2.2.2.2.2.1, X_holder cf d hf, getI_s (cf.2.2.2.1 _ hfo).1, (cf.2.2.2.1 _ hfo).2.2.2.1]
  split <;> rfl
theorem X_hold {T : St} {xb i nf np na ne nc : Nat} {M : MI} {L : ML} {fa pa aa ea ca : Nat → Nat} {il : Nat → List Nat} (j : JX T xb M L ((nf, fa), (np, pa), (na, aa), (ne, ea, il), (nc, ca))) (hi : i < na) {now : Int32} (hn : mi T xb 0 = now) : ∃ T', f_X11_hold T xb (some (aa i)) = some T' ∧ SW (fun z => z = aa i) T T' ∧ mi T' (aa i) 7 = owd M i now ∧ mi T' (aa i) 9 = now ∧ mi T' (aa i) 10 = now - sdv M ne i now ∧ ml T' (aa i) 8 = asum0 M now now (il i) ∧ ∀ k, k ≠ 7 → k ≠ 9 → k ≠ 10 → mi T' (aa i) k = mi T (aa i) k := by
  obtain ⟨b, c0, ct, cy, cf, cp, cn, ca', ce, cc, cl⟩ := j.un
  have x := b.2.2.1
  have oi := ca'.2.2.2 i hi
  have hk := oi.1
  have hb := oi.2.1
  obtain ⟨f, f1, f2, f3⟩ := oi.2.2.2.1
  obtain ⟨p, p1, p2, p3⟩ := oi.2.2.2.2.2.2.1
  have hr := oi.2.2.2.2.2.2.2.2.2.2.1
  have eo : owd M i now = if M 6 p = -1 then M 1 (fo M now 8 f) else M 6 p := by
    unfold owd
    rw [f2, p2, nI_clamp (by have := cf.2.1; have := cp.2.1; omega), nI_clamp (by have := cf.2.1; have := cp.2.1; omega)]
  unfold f_X11_hold
  simp only [xI x, hn, xV x, X_sleepDay x cl cf cp ca' ce hi, Option.bind_some]
  rw [putI_s hk]
  simp only [Option.bind_some]
  obtain ⟨A, hA⟩ : ∃ A, A = setI T (aa i) 10 (now - sdv M ne i now) := ⟨_, rfl⟩
  rw [← hA]
  have FA : Fr (fun z => z = aa i) T A := by rw [hA]; exact Fr_setI 10 _ (by omega) (fun _ => rfl)
  have bA : BS A xb := by rw [hA]; exact b.si 10 _ (by omega)
  have hPA : ∀ z, z = aa i → kd T z = 1 := fun z e => by rw [e]; exact hk
  have kA : kd A (aa i) = 1 := by rw [hA]; exact hk
  have rA : mr A = mr T := by rw [hA]; rfl
  have nA : mi A xb 0 = now := by rw [hA, mi_setI_i, if_neg (by omega), hn]
  have xA := bA.2.2.1
  have cfA := cf.gk (M' := M) b FA hPA (by decide) rfl rfl rfl rfl rfl
  have cpA := cp.gk (M' := M) b FA hPA (by decide) rfl rfl rfl rfl rfl rfl rfl
  have ceA := ce.gk (M' := M) b FA hPA (by decide) (by rw [hA, mi_setI_i, if_neg (by omega)]) (fun z hz => Or.inr (by rw [hA, mi_setI_i, if_neg (by omega)])) rfl rfl rfl rfl rfl rfl rfl
  simp only [xI xA, nA, X_owed' cfA cpA kA f1 p1 (by rw [rA]; exact f3) (by rw [rA]; exact p3), ← eo, Option.bind_some]
  rw [putI_s kA]
  simp only [Option.bind_some]
  obtain ⟨B, hB⟩ : ∃ B, B = setI A (aa i) 7 (owd M i now) := ⟨_, rfl⟩
  rw [← hB]
  have FB : Fr (fun z => z = aa i) A B := by rw [hB]; exact Fr_setI 7 _ (by omega) (fun _ => rfl)
  have bB : BS B xb := by rw [hB]; exact bA.si 7 _ (by omega)
  have hPB : ∀ z, z = aa i → kd A z = 1 := fun z e => by rw [e]; exact kA
  have kB : kd B (aa i) = 1 := by rw [hB]; exact kA
  have rB : mr B = mr A := by rw [hB]; rfl
  have nB : mi B xb 0 = now := by rw [hB, mi_setI_i, if_neg (by omega), nA]
  have xB := bB.2.2.1
  have ceB := ceA.gk (M' := M) bA FB hPB (by decide) (by rw [hB, mi_setI_i, if_neg (by omega)]) (fun z hz => Or.inr (by rw [hB, mi_setI_i, if_neg (by omega)])) rfl rfl rfl rfl rfl rfl rfl
  simp only [xI xB, nB, rcv_s kB, X_asked' kB (by rw [rB, rA]; exact hr) ceB hi, Option.bind_some]
  rw [putL_s kB]
  simp only [Option.bind_some]
  obtain ⟨C, hC⟩ : ∃ C, C = setL B (aa i) 8 (asum0 M now now (il i)) := ⟨_, rfl⟩
  rw [← hC]
  have kC : kd C (aa i) = 1 := by rw [hC]; exact kB
  have xC : XOK C xb := by rw [hC]; exact xB
  have nC : mi C xb 0 = now := by rw [hC, mi_setL_, nB]
  simp only [xI xC, nC, Option.bind_some]
  rw [putI_s kC]
  simp only [Option.bind_some]
  have w1 : SW (fun z => z = aa i) T A := by rw [hA]; exact SW_I _ _ rfl
  have w2 : SW (fun z => z = aa i) A B := by rw [hB]; exact SW_I _ _ rfl
  have w3 : SW (fun z => z = aa i) B C := by rw [hC]; exact SW_L _ _ rfl
  refine ⟨_, rfl, ((w1.tr w2).tr w3).tr (SW_I (P := fun z => z = aa i) 9 now rfl), ?_, ?_, ?_, ?_, fun k k7 k9 k10 => ?_⟩
  · rw [mi_setI_i, if_neg (by omega), hC, mi_setL_, hB, mi_setI_i, if_pos ⟨rfl, rfl⟩]
  · rw [mi_setI_i, if_pos ⟨rfl, rfl⟩]
  · rw [mi_setI_i, if_neg (by omega), hC, mi_setL_, hB, mi_setI_i, if_neg (by omega), hA, mi_setI_i, if_pos ⟨rfl, rfl⟩]
  · rw [ml_setI_, hC, ml_setL_i, if_pos ⟨rfl, rfl⟩]
  · rw [mi_setI_i, if_neg (by omega), hC, mi_setL_, hB, mi_setI_i, if_neg (by omega), hA, mi_setI_i, if_neg (by omega)]
theorem rep_step {T U : St} {xb t nf np na ne nc s : Nat} {N : MI} {K : ML} {fa pa aa ea ca : Nat → Nat} {il : Nat → List Nat} {now ow lt : Int32} {su : Int64} (j : JX T xb N K ((nf, fa), (np, pa), (na, aa), (ne, ea, il), (nc, ca))) (ht : t < na) (e00 : N 0 0 = now) (c1 : N 39 t = -1) (s4 : s < 4) (es : ow = nI s) (u2 : SW (fun z => z = aa t) T U) (u3 : mi U (aa t) 7 = ow) (u4 : mi U (aa t) 9 = now) (u5 : mi U (aa t) 10 = lt) (u6 : ml U (aa t) 8 = su) (u7 : ∀ k, k ≠ 7 → k ≠ 9 → k ≠ 10 → mi U (aa t) k = mi T (aa t) k) : JX U xb (up2 (up2 (up2 N 39 t ow) 40 t now) 41 t lt) (up2 K 42 t su) ((nf, fa), (np, pa), (na, aa), (ne, ea, il), (nc, ca)) := by
  obtain ⟨b, c0, ct, cy, cf, cp, cn, ca', ce, cc, cl⟩ := j.un
  have ot := ca'.2.2.2 t ht
  have hk := ot.1
  have FU' : Fr (fun z => z = aa t) T U := u2.fr (fun z e => by rw [e]; omega)
  have hPU : ∀ z, z = aa t → kd T z = 1 := fun z e => by rw [e]; exact hk
  have bU : BS U xb := b.fr FU' (fun z _ => by rw [u2.mr]) (fun z hz => by rw [u2.kd]; have : kd T z = 99 := b.1 z hz; omega)
  have xbs := xb_same b FU' hPU (by decide)
  refine JX.mk bU (c0.gk b FU' hPU (by decide) ⟨rfl, rfl, rfl⟩) (ct.gk b FU' hPU (by decide) (by rw [xbs]) rfl rfl) (cy.gk b FU' hPU (by decide) rfl) (cf.gk b FU' hPU (by decide) rfl rfl rfl rfl rfl) (cp.gk b FU' hPU (by decide) rfl rfl rfl rfl rfl rfl rfl) (cn.gk cp b FU' hPU (by decide) rfl rfl) ?_ (ce.gk b FU' hPU (by decide) (by rw [xbs]) (fun z hz => Or.inr ?_) rfl rfl rfl rfl rfl rfl rfl) (cc.gk b FU' hPU (by decide) rfl ?_ rfl rfl rfl rfl rfl rfl rfl) (cl.gk b FU' hPU (by decide) rfl rfl rfl rfl rfl rfl rfl rfl rfl rfl)
  · refine ⟨ca'.1, ca'.2.1, ca'.2.2.1.gk b.1 FU' hPU (by decide), fun z hz => ?_⟩
    have oz := ca'.2.2.2 z hz
    by_cases ez : z = t
    · subst ez
      obtain ⟨w1, w2, w3, w4, w5, w6, w7, w8, w9, w10, w11, w12, w13⟩ := oz
      refine ⟨by rw [u2.kd]; exact w1, w2, by rw [u7 0 (by decide) (by decide) (by decide)]; exact w3, by rw [u2.mr]; exact w4, by rw [u7 2 (by decide) (by decide) (by decide)]; exact w5, w6, by rw [u2.mr]; exact w7, by rw [u7 4 (by decide) (by decide) (by decide)]; exact w8, w9, w10, by rw [u2.mr]; exact w11, ?_, Or.inr ⟨⟨s, s4, ?_⟩, ?_, ?_, ?_, ?_, ?_⟩⟩
      · rw [u3, up2_ne _ (by decide), up2_ne _ (by decide), up2_eq]
      · rw [up2_ne _ (by decide), up2_ne _ (by decide), up2_eq, es]
      · rw [u6, up2_eq]
      · rw [u4, up2_ne _ (by decide), up2_eq]
      · rw [u5, up2_eq]
      · rw [up2_ne _ (by decide), up2_eq, ← e00]; exact c0.2.1
      · have g0 : up2 (up2 (up2 N 39 z ow) 40 z now) 41 z lt 0 0 = now := e00
        rw [g0, up2_ne _ (by decide), up2_eq]; exact Int.le_refl _
    · have hne : ¬ aa z = aa t := fun q => ez (ca'.inj hz ht q)
      have o2 := oz.go (M' := N) (L' := K) b.1 FU' hne (Int.le_refl _) rfl rfl rfl rfl rfl rfl rfl rfl
      unfold AO at o2 ⊢
      have v39 : up2 (up2 (up2 N 39 t ow) 40 t now) 41 t lt 39 z = N 39 z := by rw [up2_ne _ (by decide), up2_ne _ (by decide), up2_nk _ ez]
      have v40 : up2 (up2 (up2 N 39 t ow) 40 t now) 41 t lt 40 z = N 40 z := by rw [up2_ne _ (by decide), up2_nk _ ez, up2_ne _ (by decide)]
      have v41 : up2 (up2 (up2 N 39 t ow) 40 t now) 41 t lt 41 z = N 41 z := by rw [up2_nk _ ez, up2_ne _ (by decide), up2_ne _ (by decide)]
      have v42 : up2 (K) 42 t su 42 z = K 42 z := by rw [up2_nk _ ez]
      rw [v39, v40, v41, v42]
      exact o2
  · by_cases ez : z = t
    · subst ez
      exact u7 6 (by decide) (by decide) (by decide)
    · rw [(u2.2.2.2 (aa z) (fun q => ez (ca'.inj hz ht q))).1]
  · intro a ha hm
    by_cases ez : a = t
    · subst ez
      exact absurd c1 hm
    · rw [up2_ne _ (by decide), up2_ne _ (by decide), up2_nk _ ez]; exact hm
