/-! HEIRS: the class's way up -/
section Up
variable {S : St} {xb np p : Nat} {M : MI} {pa : Nat → Nat} {H : Nat → Bool}
theorem HL.up (hH : HL M np H) (hp : PAR M np) (hn : np ≤ 24) {c j : Nat} (hc : c < np) (hj : j < c) (h8 : M 8 c = nI j) (h : H c = true) : H j = true := (hH j (by omega)).mpr (Or.inr ⟨c, hc, h8, h⟩)
theorem X_up19 (cp : CP S xb M np pa) (hH : HL M np H) (hl : ∀ q, q < np → mi S (pa q) 7 = nI (lcn M np H q)) (hp : p < np) : ∀ (x t fu : Nat) (v : Nat), x < np → x + t ≤ 23 → x + 1 < fu → H x = true → f_X11_partsFor_19 fu S (some (pa p)) (nI v) (some (pa x)) (nI t) = some (nI (if M 9 x ≠ -1 then v * (pt M H np p x * lcn M np H x) else 0)) := by
  have hpar := cp.par
  have hn := cp.2.1
  intro x
  induction x using Nat.strongRecOn with
  | _ x ih =>
    intro t fu v hx ht hfu hHx
    obtain ⟨fu, rfl⟩ : ∃ k, fu = k + 1 := ⟨fu - 1, by omega⟩
    have ox := cp.2.2.2 x hx
    have k9 := ox.1
    have e6 : mi S (pa x) 6 = M 9 x := ox.2.2.2.2.2.2.2.1
    unfold f_X11_partsFor_19
    rw [if_neg (by rw [le_i, nI_toInt (by omega)]; simp only [Int32.reduceToInt]; omega), if_neg (by simp)]
    simp only [rcv_s k9, X_lives k9, e6, i01, Option.bind_some, getI_s k9, getR_s k9, hl x hx, pk_mul, nI_1]
    by_cases c1 : M 9 x = -1
    · rw [if_neg (fun q => q c1), if_neg (fun q => q c1)]; rfl
    · rw [if_pos c1, if_pos c1]
      by_cases c2 : x = p
      · rw [if_pos (by rw [c2]), pt_p x c2, Nat.one_mul]
      · rw [if_neg (fun q => c2 (cp.inj hx hp (Option.some.inj q)))]
        rcases ox.2.2.2.2.2.2.2.2.2.2.2 with ⟨z1, z2⟩ | ⟨j, j1, j2, j3⟩
        · rw [z2, pt_n hpar hx c2 z1]
          obtain ⟨k, rfl⟩ : ∃ k, fu = k + 1 := ⟨fu - 1, by omega⟩
          unfold f_X11_partsFor_19
          by_cases q : (24 : Int32) ≤ nI (t + 1)
          · rw [if_pos q]; simp; rfl
          · rw [if_neg q, if_pos rfl]; simp; rfl
        · rw [j3, ih j j1 (t + 1) fu (v * lcn M np H x) (by omega) (by omega) (by omega) (hH.up hpar hn hx j1 j2 hHx), pt_s hpar hn hx c2 j1 j2]
          by_cases c3 : M 9 j ≠ -1
          · rw [if_pos c3, if_pos ⟨c3, hHx⟩]
            congr 2
            rw [Nat.mul_assoc, Nat.mul_comm (lcn M np H x)]
          · rw [if_neg c3, if_neg (fun q => c3 q.1)]
            simp
theorem X_parts (cp : CP S xb M np pa) (hH : HL M np H) (hl : ∀ q, q < np → mi S (pa q) 7 = nI (lcn M np H q)) (hp : p < np) (hd : M 9 p ≠ -1) {q : Nat} (hq : q < np) : f_X11_partsFor S (some (pa p)) (some (pa q)) = some (nI (prt M H np p q)) := by
  have hpar := cp.par
  have hn := cp.2.1
  have oq := cp.2.2.2 q hq
  have k9 := oq.1
  have e6 : mi S (pa q) 6 = M 9 q := oq.2.2.2.2.2.2.2.1
  unfold f_X11_partsFor prt
  simp only [rcv_s k9, X_lives k9, e6, i01, Option.bind_some, getR_s k9]
  by_cases c1 : M 9 q = -1
  · rw [if_neg (fun z => z c1), if_pos c1]
    have hqp : q ≠ p := fun e => hd (by rw [← e]; exact c1)
    have hHq : H q = true := (hH q hq).mpr (Or.inl c1)
    rcases oq.2.2.2.2.2.2.2.2.2.2.2 with ⟨z1, z2⟩ | ⟨j, j1, j2, j3⟩
    · rw [z2, pt_n hpar hq hqp z1]
      rfl
    · rw [j3, pt_s hpar hn hq hqp j1 j2]
      have g := X_up19 cp hH hl hp j 0 FU 1 (by omega) (by omega) (by unfold FU; omega) (hH.up hpar hn hq j1 j2 hHq)
      rw [nI_0, show nI 1 = 1 from rfl, Nat.one_mul] at g
      rw [g]
      congr 2
      exact ifc ⟨fun z => ⟨z, hHq⟩, fun z => z.1⟩
  · rw [if_pos c1, if_neg c1]; rfl
theorem X_cntHeirs (x : XOK S xb) (cp : CP S xb M np pa) (hH : HL M np H) (hl : ∀ q, q < np → mi S (pa q) 7 = nI (lcn M np H q)) (hp : p < np) (hd : M 9 p ≠ -1) : ∀ (n t fu : Nat), t + n = np → n < fu → f_X11_countHeirs_4 fu S xb (some (pa p)) (nI (cntB (fun q => decide (0 < prt M H np p q)) t)) (nI t) = some (nI (cntB (fun q => decide (0 < prt M H np p q)) np)) := by
  have hpar := cp.par
  have hn := cp.2.1
  intro n
  induction n with
  | zero =>
    intro t fu h1 h2
    obtain ⟨fu, rfl⟩ : ∃ k, fu = k + 1 := ⟨fu - 1, by omega⟩
    unfold f_X11_countHeirs_4
    simp only [xR_persons x, xV_persons x, L_size cp.2.2.1, Option.bind_some]
    rw [if_pos (nI_le (by omega) (by omega)), show t = np by omega]
  | succ n ih =>
    intro t fu h1 h2
    obtain ⟨fu, rfl⟩ : ∃ k, fu = k + 1 := ⟨fu - 1, by omega⟩
    have ht : t < np := by omega
    have hlt : prt M H np p t ≤ 2 ^ 24 := by
      unfold prt
      split
      · exact pt_lt hpar hn ht
      · exact Nat.zero_le _
    unfold f_X11_countHeirs_4
    simp only [xR_persons x, xV_persons x, L_size cp.2.2.1, Option.bind_some]
    rw [if_neg (nI_ge (by omega) (by omega))]
    simp only [L_get cp.2.2.1 ht, castO_s (cp.2.2.2 t ht).1, X_parts cp hH hl hp hd ht, Option.bind_some, nI_1]
    have hs : cntB (fun q => decide (0 < prt M H np p q)) (t + 1) = cntB (fun q => decide (0 < prt M H np p q)) t + (if decide (0 < prt M H np p t) then 1 else 0) := rfl
    by_cases c : 0 < prt M H np p t
    · rw [if_neg (nI_nle c (by omega))]
      rw [if_pos (by simpa using c)] at hs
      rw [← hs]
      exact ih (t + 1) fu (by omega) (by omega)
    · rw [if_pos (by rw [show prt M H np p t = 0 by omega]; decide)]
      rw [if_neg (by simpa using c)] at hs
      have hs' : cntB (fun q => decide (0 < prt M H np p q)) (t + 1) = cntB (fun q => decide (0 < prt M H np p q)) t := hs
      rw [← hs']
      exact ih (t + 1) fu (by omega) (by omega)
end Up
