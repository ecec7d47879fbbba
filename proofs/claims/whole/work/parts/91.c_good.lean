theorem JJ.pa {S T U : St} {xb k : Nat} (h : JJ S xb (k + 1)) (w : SW (PX xb) S T) (u : SW (PA xb) T U) : JJ U xb k := by
  obtain ⟨⟨g, j⟩, -⟩ := id h
  have mT := j.1.2.2.2.1.sw w
  have e : ∀ o, o < 37 ∨ 38 < o ∧ o < 46 ∨ 48 < o → Mi U (xb + 22) o = Mi S (xb + 22) o ∧ Ml U (xb + 22) o = Ml S (xb + 22) o := fun o ho => by
    have a := u.2.2.2 (xb + 22 + o) (by unfold PA P3; omega)
    have c := PX_m w o
    exact ⟨a.1.trans c.1, a.2.trans c.2⟩
  refine h.fin (j.px w) w.cap (by rw [w.nx]; omega) (by rw [w.sl]; omega) ((u.mono (fun _ => PA.pm)).fm mT) u.mr u.nx u.sl ⟨fun o ho => (e o ?_).1, fun f _ => congrFun (e 0 (by omega)).1 f⟩ ⟨(e 42 (by omega)).2, (e 54 (by omega)).2, (e 55 (by omega)).2⟩
  revert o
  decide
/-- of how many parts the claimant has one -/
def prts (M : MI) (H : Nat → Bool) (np p q : Nat) : Nat := if M 9 p = -1 then (if q = p then 1 else 0) else prt M H np p q
section Good
variable {S : St} {xb nf np na ne nc a p q s la c : Nat} {M : MI} {L : ML} {fa pa aa ea ca : Nat → Nat} {il : Nat → List Nat} {H : Nat → Bool} {PL : List PLn}
theorem prts_le (hpar : PAR M np) (hn : np ≤ 24) (hq : q < np) : prts M H np p q ≤ 2 ^ 24 := by
  unfold prts prt
  split
  · split <;> omega
  · split
    · exact pt_lt hpar hn hq
    · omega
theorem X_partsOf (cp : CP S xb M np pa) (hH : HL M np H) (hl : ∀ q, q < np → mi S (pa q) 7 = nI (lcn M np H q)) (hp : p < np) (hq : q < np) (kc : kd S (ca c) = 3) (r0 : mr S (ca c) 0 = some (pa q)) (r1 : mr S (ca c) 1 = some (aa a)) (k1 : kd S (aa a) = 1) (r3 : mr S (aa a) 3 = some (pa p)) : f_X11_partsOf S (some (ca c)) = some (nI (prts M H np p q)) := by
  have oi := cp.2.2.2 p hp
  have k9 := oi.1
  have e6 : mi S (pa p) 6 = M 9 p := oi.2.2.2.2.2.2.2.1
  unfold f_X11_partsOf prts
  simp only [getR_s kc, r1, getR_s k1, r3, rcv_s k9, X_lives k9, e6, i01, r0, Option.bind_some]
  by_cases d : M 9 p = -1
  · rw [if_neg (fun z => z d), if_pos d]
    by_cases e : q = p
    · rw [if_pos e, if_pos (by rw [e])]; rfl
    · rw [if_neg e, if_neg (fun z => e (cp.inj hq hp (Option.some.inj z)))]; rfl
  · rw [if_pos d, if_neg d, X_parts cp hH hl hp d hq]
    rfl
theorem X_isGood {v : Int32} (x : XOK S xb) (hP : f_X11_partsOf S (some (ca c)) = some (nI (prts M H np p q))) (hle : prts M H np p q ≤ 2 ^ 24) (kc : kd S (ca c) = 3) (r1 : mr S (ca c) 1 = some (aa a)) (e2 : mi S (ca c) 2 = M 51 c) (hA : ∃ T, f_X11_pointsAsked S xb (some (aa a)) = some (v, T) ∧ SW (PX xb) S T) : ∃ T, f_X11_isGood S xb (some (ca c)) = some (if v ≤ M 51 c ∧ 0 < prts M H np p q then 1 else 0, T) ∧ SW (PX xb) S T := by
  obtain ⟨T, a1, a2⟩ := hA
  unfold f_X11_isGood
  simp only [hP, getI_s kc, e2, getR_s kc, r1, xV x, a1, Option.bind_some]
  by_cases d : 0 < prts M H np p q
  · rw [if_neg (by rw [le_i, nI_toInt (by omega)]; simp only [Int32.reduceToInt]; omega)]
    by_cases e : v ≤ M 51 c
    · rw [if_neg (Int32.not_lt.mpr e), if_pos ⟨e, d⟩]
      exact ⟨T, rfl, a2⟩
    · rw [if_pos (Int32.not_le.mp e), if_neg (fun z => e z.1)]
      exact ⟨T, rfl, a2⟩
  · rw [if_pos (by rw [le_i, nI_toInt (by omega)]; simp only [Int32.reduceToInt]; omega), if_neg (fun z => d z.2)]
    exact ⟨S, rfl, SW.rf _ _⟩
theorem M_isGood {T : St} {v : Int32} (m : MOK T (xb + 22)) (hM : ∀ o, o < 60 → Mi T (xb + 22) o = M o) (hpar : PAR M np) (n24 : np ≤ 24) (hH : HL M np H) (h02 : M 0 2 = nI np) (ha : a < 40) (hc : c < 60) (hp : p < np) (hq : q < np) (h12 : M 12 a = nI p) (h49 : M 49 c = nI q) (h50 : M 50 c = nI a) (hA : ∃ T', f_X12_asked T (xb + 22) (nI a) = some (v, T') ∧ SW (PA xb) T T') : ∃ T', f_X12_isGood T (xb + 22) (nI c) = some (if v ≤ M 51 c ∧ 0 < prts M H np p q then 1 else 0, T') ∧ SW (PA xb) T T' := by
  obtain ⟨A, a1, a2⟩ := hA
  have mA := m.sw a2
  have p24 : p < 24 := by omega
  have q24 : q < 24 := by omega
  have e50 : mi T (xb + 22 + 50) c = nI a := (congrFun (hM 50 (by omega)) c).trans h50
  have e12 : mi T (xb + 22 + 12) a = nI p := (congrFun (hM 12 (by omega)) a).trans h12
  have e51 : mi T (xb + 22 + 51) c = M 51 c := congrFun (hM 51 (by omega)) c
  have r : ∀ o, o < 37 ∨ 38 < o ∧ o < 46 ∨ 48 < o ∧ o < 60 → Mi A (xb + 22) o = M o := fun o ho => ((a2.2.2.2 (xb + 22 + o) (by unfold PA P3; omega)).1).trans (hM o (by omega))
  have f9 : mi A (xb + 22 + 9) p = M 9 p := congrFun (r 9 (by omega)) p
  have f49 : mi A (xb + 22 + 49) c = nI q := (congrFun (r 49 (by omega)) c).trans h49
  have f2 : mi A (xb + 22) 2 = nI np := (congrFun (r 0 (by omega)) 2).trans h02
  unfold f_X12_isGood
  simp only [mR_claimOn m, mL_claimOn m hc, e50, mR_owner m, mL_owner m ha, e12, mR_claimPoints m, mL_claimPoints m hc, e51, mV m, a1, Option.bind_some]
  by_cases e : v ≤ M 51 c
  · rw [if_pos e]
    simp only [mR_died mA, mL_died mA p24, f9, mR_claimBy mA, mL_claimBy mA hc, f49, Option.bind_some, mV mA]
    unfold prts
    by_cases d : M 9 p = -1
    · rw [if_pos d, if_pos d]
      by_cases d2 : q = p
      · rw [if_pos (by rw [d2]), if_pos d2, if_pos ⟨e, by omega⟩]
        exact ⟨A, rfl, a2⟩
      · rw [if_neg (fun z => d2 ((nI_eq (by omega) (by omega)).mp z)), if_neg d2, if_neg (fun z => by omega)]
        exact ⟨A, rfl, a2⟩
    · rw [if_neg d, if_neg d]
      obtain ⟨B, b1, b2, b3⟩ := M_shares (p := p) hpar n24 hH hp mA f2 (fun c hc => ⟨congrFun (r 8 (by omega)) c, congrFun (r 9 (by omega)) c⟩)
      have mB := mA.sw b2
      have g49 : mi B (xb + 22 + 49) c = nI q := by rw [(b2.2.2.2 (xb + 22 + 49) (by unfold P3; omega)).1]; exact f49
      simp only [b1, mR_above mB, mR_claimBy mB, mL_claimBy mB hc, g49, mL_above mB q24, (b3 q hq).1, Option.bind_some]
      have w : SW (PA xb) T B := a2.tr (b2.mono (fun _ z => Or.inl z))
      by_cases d2 : 0 < prt M H np p q
      · rw [if_pos d2, if_neg (by decide), if_pos ⟨e, d2⟩]
        exact ⟨B, rfl, w⟩
      · rw [if_neg d2, if_pos (by decide), if_neg (fun z => d2 z.2)]
        exact ⟨B, rfl, w⟩
  · rw [if_neg e, if_neg (fun z => e z.1)]
    exact ⟨A, rfl, a2⟩
end Good
